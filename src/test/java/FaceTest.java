import java.lang.reflect.Constructor;
import java.lang.reflect.Field;
import java.lang.reflect.Method;
import java.lang.reflect.Modifier;
import java.util.Set;
import java.util.TreeSet;

/** The public face: just the document's members, and nothing else that can be seen from outside. */
public final class FaceTest {
    private static final Set<String> DUE = Set.of(
            "FlexCycles(int,int,int)",
            "int frame(int,int,int,int,int)",
            "int dynamic(int,int,int)",
            "int drift(int,int)",
            "int run(int)",
            "int state(int)",
            "int offset(int)",
            "int rate(int)",
            "int place(int,int) throws ArrayIndexOutOfBoundsException",
            "int cold(int,boolean)",
            "int flip(int,int)",
            "boolean close(int)",
            "int midpoint(int)");

    public static void main(String[] args) {
        Check check = new Check();
        int modifiers = FlexCycles.class.getModifiers();
        check.due("public", Modifier.isPublic(modifiers), true);
        check.due("final", Modifier.isFinal(modifiers), true);
        Set<String> seen = new TreeSet<>();
        for (Constructor<?> made : FlexCycles.class.getDeclaredConstructors()) {
            seen.add("FlexCycles" + parameters(made.getParameterTypes()));
            check.due("public constructor", Modifier.isPublic(made.getModifiers()), true);
        }
        for (Method method : FlexCycles.class.getDeclaredMethods()) {
            if (!Modifier.isPrivate(method.getModifiers())) {
                seen.add(written(method));
                check.due(method + " is public", Modifier.isPublic(method.getModifiers()), true);
                check.due(method + " is static", Modifier.isStatic(method.getModifiers()), false);
            }
        }
        for (Field field : FlexCycles.class.getDeclaredFields()) {
            check.due(field + " is private", Modifier.isPrivate(field.getModifiers()), true);
        }
        check.due("the face " + seen, seen.equals(DUE), true);
        check.end();
    }

    private static String written(Method method) {
        StringBuilder text = new StringBuilder(method.getReturnType().getSimpleName());
        text.append(' ').append(method.getName()).append(parameters(method.getParameterTypes()));
        for (Class<?> thrown : method.getExceptionTypes()) {
            text.append(" throws ").append(thrown.getSimpleName());
        }
        return text.toString();
    }

    private static String parameters(Class<?>[] types) {
        StringBuilder text = new StringBuilder("(");
        for (Class<?> type : types) {
            text.append(text.length() > 1 ? "," : "").append(type.getSimpleName());
        }
        return text.append(')').toString();
    }
}
