import java.io.IOException;
import java.lang.reflect.Field;
import java.lang.reflect.Method;
import java.lang.reflect.Modifier;
import java.nio.file.Files;
import java.nio.file.Path;
import java.util.ArrayList;
import java.util.HashSet;
import java.util.List;
import java.util.Set;
import java.util.regex.Matcher;
import java.util.regex.Pattern;

/** LANGUAGE.md: what of its rules can be seen in the compiled class and in the file's words. */
public final class LanguageTest {
    private static final Check check = new Check();
    private static final List<Class<?>> classes = new ArrayList<>();

    public static void main(String[] args) throws IOException {
        gather(FlexCycles.class);
        check.due("rule 11: at most twelve classes", classes.size() <= 12, true);
        for (Class<?> one : classes) {
            nested(one);
            fields(one);
            methods(one);
        }
        words(Files.readString(Path.of("src/main/java/FlexCycles.java")));
        check.end();
    }

    private static void gather(Class<?> one) {
        classes.add(one);
        for (Class<?> inside : one.getDeclaredClasses()) {
            gather(inside);
        }
    }

    private static void nested(Class<?> one) {
        if (one == FlexCycles.class) {
            return;
        }
        int modifiers = one.getModifiers();
        boolean seen = Modifier.isPublic(modifiers) || Modifier.isProtected(modifiers);
        check.due("rule 1: " + one + " is seen from outside", seen, false);
        check.due("rule 1: " + one + " is static", Modifier.isStatic(modifiers), true);
    }

    private static void fields(Class<?> one) {
        int own = 0;
        for (Field field : one.getDeclaredFields()) {
            if (Modifier.isStatic(field.getModifiers())) {
                boolean constant = Modifier.isFinal(field.getModifiers());
                check.due("rule 5: " + field + " is final", constant, true);
                check.due("rule 5: " + field + " is plain", field.getType().isPrimitive(), true);
            } else {
                own++;
            }
        }
        check.due("rule 11: " + one + " has at most twenty fields", own <= 20, true);
    }

    private static void methods(Class<?> one) {
        Set<String> face = new HashSet<>();
        for (Method method : FlexCycles.class.getMethods()) {
            face.add(method.getName());
        }
        for (Method method : one.getDeclaredMethods()) {
            boolean ofFace = Modifier.isPublic(method.getModifiers());
            check.due("rule 1: " + method + " bears a name of its own",
                    ofFace || !face.contains(method.getName()), true);
            check.due("rule 11: " + method + " takes at most seven",
                    method.getParameterCount() <= 7, true);
        }
    }

    private static void words(String file) {
        String code = file.replaceAll("(?s)/\\*.*?\\*/", "").replaceAll("//.*", "");
        String[] ruledOut = {
            "\\bimport\\b", "\\bpackage\\b", "\\bjava\\.", "\\bSystem\\b", "Exact\\b",
            "\\btry\\b", "\\bcatch\\b", "\\bfinally\\b", "\\bsynchronized\\b", "\\bassert\\b",
            "->", "::", "\\bstatic \\{",
            // A divisor that is a written number needs no look before it divides.
            "%", "/ *[^ 1-9]"
        };
        for (String pattern : ruledOut) {
            boolean stands = Pattern.compile(pattern).matcher(code).find();
            check.due("'" + pattern + "' stands in the file", stands, false);
        }
        Matcher thrown = Pattern.compile("throw new (\\w+)\\(\\)").matcher(code);
        int found = 0;
        while (thrown.find()) {
            found++;
            boolean right = thrown.group(1).equals("ArrayIndexOutOfBoundsException");
            check.due("rule 6: " + thrown.group() + " is the document's", right, true);
        }
        check.due("rule 6: throws", found, 1);
    }
}
