import java.util.ArrayList;
import java.util.List;
import java.util.regex.Matcher;
import java.util.regex.Pattern;

/** What the acts of the document do, told a second time with lists and copies. */
final class SlowLifter {
    private static final Pattern THING = Pattern.compile("[a-z]+|[0-9]+|.", Pattern.DOTALL);
    private static final List<String> KINDS = List.of("net", "root", "exit", "lay", "shut", "open", "toll");

    SlowNet net;
    int fault = -1;
    int why = 0;
    int[] latest = new int[4];
    String tape = "";
    final List<SlowNet> memory = new ArrayList<>();
    private SlowNet image;
    private List<String> things;
    private List<Integer> places;
    private int next;
    private int wrong;
    private int refusedBy;

    SlowLifter(boolean byWays) {
        net = new SlowNet(byWays, 8);
    }

    /** An act by a call: whether it was done. */
    boolean act(String kind, int a, int b) {
        SlowNet after = net.copy();
        why = apply(after, kind, a, b);
        if (why != 0) {
            return false;
        }
        memory.add(net);
        if (memory.size() > 8) {
            memory.remove(0);
        }
        latest = net.changeTo(after);
        net = after;
        return true;
    }

    void net(int nodes) {
        rest(new SlowNet(net.byWays, nodes));
        why = 0;
    }

    int undo() {
        if (memory.isEmpty()) {
            return -1;
        }
        SlowNet before = memory.remove(memory.size() - 1);
        List<SlowNet> rest = new ArrayList<>(memory);
        rest(before);
        memory.addAll(rest);
        return memory.size();
    }

    void image() {
        image = net;
    }

    boolean back() {
        if (image == null) {
            return false;
        }
        rest(image);
        return true;
    }

    private void rest(SlowNet then) {
        net = then;
        memory.clear();
        latest = new int[4];
    }

    private static int apply(SlowNet net, String kind, int a, int b) {
        boolean noNode = a < 0 || a >= net.nodes;
        boolean noArc = a < 0 || a >= net.arcs.size();
        switch (kind) {
            case "net":
                net.nodes = a;
                net.root = 0;
                net.exit = a - 1;
                java.util.Arrays.fill(net.tolls, 1);
                net.arcs.clear();
                net.open.clear();
                return 0;
            case "root":
                if (noNode || net.root == a) {
                    return noNode ? 1 : 4;
                }
                net.root = a;
                return 0;
            case "exit":
                if (noNode || net.exit == a) {
                    return noNode ? 1 : 4;
                }
                net.exit = a;
                return 0;
            case "lay":
                if (noNode || b < 0 || b >= net.nodes) {
                    return 1;
                }
                if (net.arcs.size() == 60) {
                    return 2;
                }
                net.arcs.add(new int[] {a, b});
                net.open.add(true);
                return 0;
            case "toll":
                if (noNode || net.tolls[a] == b) {
                    return noNode ? 1 : 4;
                }
                net.tolls[a] = b;
                return 0;
            default:
                if (noArc || net.open.get(a) == kind.equals("open")) {
                    return noArc ? 3 : 4;
                }
                net.open.set(a, kind.equals("open"));
                return 0;
        }
    }

    /** Uses the tape up: how many acts, or -1. */
    int acts() {
        split();
        next = 0;
        wrong = -1;
        refusedBy = 0;
        SlowNet then = net.copy();
        int done = things.isEmpty() ? 0 : readActs(then);
        tape = "";
        fault = wrong;
        if (wrong >= 0) {
            why = refusedBy != 0 ? refusedBy : why;
            return -1;
        }
        rest(then);
        why = done > 0 ? 0 : why;
        return done;
    }

    private void split() {
        things = new ArrayList<>();
        places = new ArrayList<>();
        Matcher matcher = THING.matcher(tape);
        while (matcher.find()) {
            if (!matcher.group().equals(" ")) {
                things.add(matcher.group());
                places.add(matcher.start());
            }
        }
    }

    private int readActs(SlowNet then) {
        for (int done = 0;; done++) {
            int begin = next;
            if (done == 14 || next == things.size() || !KINDS.contains(things.get(next))) {
                return wrongAt(next);
            }
            String kind = things.get(next++);
            List<int[]> told = new ArrayList<>();
            do {
                if (!told.isEmpty()) {
                    next++;
                }
                int[] one = readTold(kind);
                if (one == null) {
                    return -1;
                }
                told.add(one);
            } while (List.of("lay", "shut", "open").contains(kind) && isNext(","));
            for (int[] one : told) {
                refusedBy = apply(then, kind, one[0], one[1]);
                if (refusedBy != 0) {
                    return wrongAt(begin);
                }
            }
            if (next == things.size()) {
                return done + 1;
            }
            if (!isNext(";")) {
                return wrongAt(next);
            }
            next++;
        }
    }

    private int[] readTold(String kind) {
        int[] told = new int[2];
        int low = kind.equals("net") ? 2 : 0;
        int high = kind.equals("net") ? 16 : kind.equals("shut") || kind.equals("open") ? 59 : 15;
        if (!readNumber(told, 0, low, high)) {
            return null;
        }
        if (kind.equals("lay") || kind.equals("toll")) {
            if (!readNumber(told, 1, 0, kind.equals("lay") ? 15 : 99)) {
                return null;
            }
        }
        return told;
    }

    private boolean readNumber(int[] told, int k, int low, int high) {
        boolean fits = next < things.size() && things.get(next).matches("[0-9]{1,2}");
        if (fits) {
            told[k] = Integer.parseInt(things.get(next));
            fits = told[k] >= low && told[k] <= high;
        }
        if (!fits) {
            wrongAt(next);
            return false;
        }
        next++;
        return true;
    }

    private boolean isNext(String sign) {
        return next < things.size() && things.get(next).equals(sign);
    }

    private int wrongAt(int thing) {
        wrong = thing < things.size() ? places.get(thing) : tape.length();
        return -1;
    }
}
