import java.util.ArrayList;
import java.util.Collections;
import java.util.HashSet;
import java.util.List;
import java.util.Set;

/** The document written down a second time, as near to its words as can be, for ModelTest. */
final class Model {
    static final int THROWN = Integer.MIN_VALUE;

    private static final class Node {
        int number;
        int state;
        boolean cold;
        int error;
        int drift;
        int rate;
        int suchCycles;
        int midpoint;
        int midpointCycle = -9;
    }

    private record Static(Node node, int slot, int channel, int base, int every) {
        boolean on(int c) {
            return channel == 3 || channel == c;
        }

        boolean in(long cycle) {
            return cycle % every == base;
        }
    }

    private record Dynamic(Node node, int identity, int length) {
    }

    private final List<Node> nodes = new ArrayList<>();
    private final List<Static> statics = new ArrayList<>();
    private final List<Dynamic> waiting = new ArrayList<>();
    private final Set<String> flips = new HashSet<>();
    private final int slots;
    private final int minis;
    private int cycle = 0;

    Model(int nodes, int slots, int minis) {
        int many = nodes < 1 || nodes > 16 ? 4 : nodes;
        for (int i = 1; i <= many; i++) {
            Node node = new Node();
            node.number = i;
            this.nodes.add(node);
        }
        this.slots = slots < 1 || slots > 60 ? 10 : slots;
        this.minis = minis < 0 || minis > 60 ? 20 : minis;
    }

    private Node find(int number) {
        for (Node node : nodes) {
            if (node.number == number) {
                return node;
            }
        }
        return null;
    }

    private boolean noSlot(int slot) {
        return slot < 0 || slot >= slots;
    }

    int frame(int node, int slot, int channel, int base, int every) {
        if (find(node) == null || noSlot(slot)) {
            return -1;
        }
        boolean known = List.of(1, 2, 4, 8, 16, 32, 64).contains(every);
        if (channel < 1 || channel > 3 || !known || base < 0 || base >= every) {
            return -2;
        }
        Static told = new Static(find(node), slot, channel, base, every);
        for (Static other : statics) {
            for (int c = 0; c < 64; c++) {
                boolean met = told.on(1) && other.on(1) || told.on(2) && other.on(2);
                if (other.slot == slot && met && told.in(c) && other.in(c)) {
                    return -3;
                }
            }
        }
        if (statics.size() == 100) {
            return -4;
        }
        statics.add(told);
        return statics.size();
    }

    int dynamic(int node, int identity, int length) {
        if (find(node) == null) {
            return -1;
        }
        if (identity < 1 || identity > 60 || length < 1 || length > 60) {
            return -2;
        }
        if (waiting.size() == 100) {
            return -4;
        }
        waiting.add(new Dynamic(find(node), identity, length));
        return waiting.size();
    }

    int drift(int node, int parts) {
        if (find(node) == null) {
            return -1;
        }
        if (parts < -200 || parts > 200) {
            return -2;
        }
        find(node).drift = parts;
        return 1;
    }

    int state(int node) {
        return find(node) == null ? -1 : find(node).state;
    }

    int offset(int node) {
        return find(node) == null ? 0 : find(node).error;
    }

    int rate(int node) {
        return find(node) == null ? 0 : find(node).rate;
    }

    int midpoint(int node) {
        return find(node) == null ? 0 : find(node).midpoint;
    }

    int place(int slot, int cycle) {
        if (noSlot(slot) || cycle < 0 || cycle > 63) {
            return THROWN;
        }
        for (int channel = 1; channel <= 2; channel++) {
            for (Static frame : statics) {
                if (frame.slot == slot && frame.on(channel) && frame.in(cycle)) {
                    return frame.node.number;
                }
            }
        }
        return 0;
    }

    int cold(int node, boolean on) {
        Node told = find(node);
        if (told == null) {
            return -1;
        }
        told.cold = on;
        if (on && told.state >= 3) {
            told.state = 0;
            told.error = 0;
            told.rate = 0;
        }
        return (int) nodes.stream().filter(n -> n.cold).count();
    }

    int flip(int channel, int at) {
        if (channel != 1 && channel != 2 || noSlot(at)) {
            return -1;
        }
        return flips.add(channel + " " + at) ? flips.size() : -3;
    }

    boolean close(int bound) {
        for (Node a : active()) {
            for (Node b : active()) {
                if (a != b && (long) a.error - b.error > bound) {
                    return false;
                }
                if (a != b && a.error == b.error && bound < 0) {
                    return false;
                }
            }
        }
        return true;
    }

    int run(int cycles) {
        if (cycles < 0 || cycles > 500) {
            return -2;
        }
        int done = 0;
        for (int i = 0; i < cycles; i++) {
            step1();
            Set<Node> heard = new HashSet<>();
            done += step2(heard) + step3();
            step4(heard);
            for (Node node : nodes) {
                node.error += node.state == 4 ? 0 : node.drift + node.rate;
            }
            flips.clear();
            cycle++;
        }
        return done;
    }

    private List<Node> active() {
        return nodes.stream().filter(n -> n.state == 2).toList();
    }

    private void step1() {
        List<Node> before = active();
        if (before.isEmpty()) {
            List<Node> these = nodes.stream().filter(n -> n.cold && n.state <= 1).toList();
            if (these.size() >= 2) {
                these.forEach(n -> n.state = 2);
            }
            return;
        }
        int error = before.get(0).error;
        for (Node node : nodes) {
            if (node.state == 1 && ++node.suchCycles == 2) {
                node.state = 2;
                node.error = error;
            } else if (node.state == 0) {
                node.state = 1;
                node.suchCycles = 0;
            }
        }
    }

    private int step2(Set<Node> heard) {
        int done = 0;
        for (int slot = 0; slot < slots; slot++) {
            for (Static frame : statics) {
                boolean on1 = frame.on(1) && !flips.contains("1 " + slot);
                boolean on2 = frame.on(2) && !flips.contains("2 " + slot);
                boolean sent = frame.slot == slot && frame.node.state == 2 && frame.in(cycle);
                if (sent && (on1 || on2)) {
                    done++;
                    heard.add(frame.node);
                }
            }
        }
        return done;
    }

    private int step3() {
        int done = 0;
        int m = 1;
        for (int i = 1; m <= minis; i++) {
            int identity = i;
            Dynamic first = waiting.stream()
                    .filter(d -> d.identity == identity && d.node.state == 2)
                    .findFirst().orElse(null);
            if (first != null && m + first.length - 1 <= minis) {
                waiting.remove(waiting.indexOf(first));
                done++;
                m += first.length;
            } else {
                m++;
            }
        }
        return done;
    }

    private void step4(Set<Node> heard) {
        List<Node> active = active();
        List<Integer> midpoints = new ArrayList<>();
        for (Node node : active) {
            List<Integer> row = new ArrayList<>();
            row.add(0);
            for (Node other : active) {
                if (other != node && heard.contains(other)) {
                    row.add(other.error - node.error);
                }
            }
            Collections.sort(row);
            int k = row.size() < 3 ? 0 : row.size() < 8 ? 1 : 2;
            List<Integer> left = row.subList(k, row.size() - k);
            midpoints.add((left.get(0) + left.get(left.size() - 1)) / 2);
        }
        for (int i = 0; i < active.size(); i++) {
            Node node = active.get(i);
            int before = node.midpointCycle == cycle - 1 ? node.midpoint : 0;
            node.midpoint = midpoints.get(i);
            node.midpointCycle = cycle;
            if (Math.abs(node.midpoint) > 500) {
                node.state = 4;
                continue;
            }
            node.error += node.midpoint;
            if (cycle % 2 == 1) {
                node.rate += (node.midpoint + before) / 4;
                if (Math.abs(node.rate) > 100) {
                    node.rate = node.rate > 0 ? 100 : -100;
                    node.state = 3;
                }
            }
        }
    }
}
