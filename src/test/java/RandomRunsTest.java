import java.util.List;
import java.util.NoSuchElementException;
import java.util.Random;

/** Runs of calls, the same ones each time, answered by GateLifter and by the slow lifter. */
public final class RandomRunsTest {
    private static final String[] KINDS = {"root", "exit", "lay", "lay", "lay", "lay", "lay", "shut", "open", "toll"};

    private final Random dice;
    private final GateLifter quick = new GateLifter();
    private final SlowLifter slow;
    private final int mostNodes;
    private final int mostArcs;
    private String run;

    private RandomRunsTest(int seed, boolean byWays) {
        dice = new Random(seed);
        slow = new SlowLifter(byWays);
        mostNodes = byWays ? 6 : 16;
        mostArcs = byWays ? 9 : 60;
        run = (byWays ? "small " : "large ") + seed + ": ";
    }

    public static void main(String[] args) {
        for (int seed = 0; seed < 250; seed++) {
            new RandomRunsTest(seed, true).go(40, 2);
        }
        for (int seed = 0; seed < 60; seed++) {
            new RandomRunsTest(seed, false).go(90, 15);
        }
        Check.finish();
    }

    /** Many acts, all questions behind each so many. */
    private void go(int acts, int every) {
        act("net", 2 + dice.nextInt(mostNodes - 1), 0);
        if (!slow.net.byWays && dice.nextBoolean()) {
            layMany();
        }
        for (int i = 0; i < acts; i++) {
            step();
            compareState();
            if (i % every == every - 1) {
                compareAll();
            }
        }
    }

    private void layMany() {
        int count = dice.nextInt(61);
        for (int i = 0; i < count; i++) {
            act("lay", dice.nextInt(slow.net.nodes), dice.nextInt(slow.net.nodes));
        }
        compareAll();
    }

    private void step() {
        int die = dice.nextInt(40);
        if (die == 0) {
            Check.due(run + "back", quick.back(), slow.back());
        } else if (die == 1) {
            quick.image();
            slow.image();
        } else if (die == 2) {
            act("net", 2 + dice.nextInt(mostNodes - 1), 0);
        } else if (die < 6) {
            undo();
        } else if (die < 12) {
            tellText();
        } else {
            String kind = KINDS[dice.nextInt(KINDS.length)];
            boolean full = kind.equals("lay") && slow.net.byWays && slow.net.arcs.size() >= mostArcs;
            act(full ? "shut" : kind, few(kind), second(kind));
        }
    }

    /** A number that mostly fits. */
    private int few(String kind) {
        boolean arc = kind.equals("shut") || kind.equals("open");
        return dice.nextInt((arc ? slow.net.arcs.size() : slow.net.nodes) + 1) - dice.nextInt(20) / 19;
    }

    private int second(String kind) {
        return kind.equals("toll") ? dice.nextInt(dice.nextBoolean() ? 3 : 100) : few(kind);
    }

    private void undo() {
        int want = slow.undo();
        if (want < 0) {
            Check.dueThrow(run + "undo", IllegalStateException.class, quick::undo);
        } else {
            Check.due(run + "undo", quick.undo(), want);
        }
    }

    private void act(String kind, int a, int b) {
        run += kind + " " + a + " " + b + "; ";
        SlowNet before = slow.net;
        if (kind.equals("net")) {
            slow.net(a);
            quick.net(a);
            return;
        }
        if (!slow.act(kind, a, b)) {
            Check.dueThrow(run, IllegalStateException.class, () -> call(kind, a, b));
            return;
        }
        int[] change = slow.latest;
        int want = kind.equals("root") ? before.root : kind.equals("exit") ? before.exit
                : kind.equals("lay") ? before.arcs.size() : kind.equals("toll") ? before.tolls[a]
                : Integer.bitCount(kind.equals("shut") ? change[1] : change[0]);
        Check.due(run, call(kind, a, b), want);
    }

    private int call(String kind, int a, int b) {
        switch (kind) {
            case "root": return quick.tell(a, false);
            case "exit": return quick.tell(a, true);
            case "lay": return quick.lay(a, b);
            case "shut": return quick.shut(a);
            case "open": return quick.open(a);
            default: return quick.toll(a, b);
        }
    }

    // ---- texts

    private void tellText() {
        String text = text();
        if (dice.nextInt(3) == 0) {
            text = spoil(text);
        }
        text = text.length() > 400 ? text.substring(0, 400) : text;
        run += "'" + text + "'; ";
        Texts.put(quick, text);
        slow.tape = text;
        SlowNet before = slow.net;
        int want = slow.acts();
        if (want < 0) {
            Check.dueThrow(run, IllegalArgumentException.class, quick::acts);
        } else {
            Check.due(run, quick.acts(), want);
        }
        if (slow.net.byWays && slow.net.arcs.size() > mostArcs) {
            // too many ways to look at one by one
            act("net", before.nodes, 0);
        }
    }

    private String text() {
        StringBuilder text = new StringBuilder(blanks());
        int acts = dice.nextInt(dice.nextInt(5) == 0 ? 17 : 4);
        for (int i = 0; i < acts; i++) {
            text.append(i > 0 ? ";" + blanks() : "").append(oneAct()).append(blanks());
        }
        return text.toString();
    }

    private String oneAct() {
        String kind = dice.nextInt(30) == 0 ? "net" : KINDS[dice.nextInt(KINDS.length)];
        if (kind.equals("net")) {
            return "net " + (2 + dice.nextInt(mostNodes - 1));
        }
        StringBuilder act = new StringBuilder(kind).append(blanks());
        boolean many = !kind.equals("root") && !kind.equals("exit") && !kind.equals("toll");
        int count = many ? 1 + dice.nextInt(3) : 1;
        for (int i = 0; i < count; i++) {
            act.append(i > 0 ? "," + blanks() : "").append(Math.max(0, few(kind)));
            if (kind.equals("lay") || kind.equals("toll")) {
                act.append(' ').append(blanks()).append(Math.max(0, second(kind)));
            }
            act.append(blanks());
        }
        return act.toString();
    }

    private String blanks() {
        return dice.nextInt(3) == 0 ? " ".repeat(1 + dice.nextInt(3)) : "";
    }

    private String spoil(String text) {
        String signs = " ,;0123456789netrotxilaysuphz\u00e9\u0000A";
        StringBuilder spoilt = new StringBuilder(text);
        int place = dice.nextInt(text.length() + 1);
        char sign = signs.charAt(dice.nextInt(signs.length()));
        int die = dice.nextInt(4);
        if (die == 0) {
            spoilt.setLength(place);
        } else if (die == 1 && place < text.length()) {
            spoilt.deleteCharAt(place);
        } else if (die == 2 && place < text.length()) {
            spoilt.setCharAt(place, sign);
        } else {
            spoilt.insert(place, sign);
        }
        return spoilt.toString();
    }

    // ---- questions

    private void compareState() {
        Check.due(run + "why", quick.why(), slow.why);
        Check.due(run + "fault", quick.fault(), slow.fault);
        Check.due(run + "count(14)", quick.count(14), slow.memory.size());
        for (int what = 0; what < 4; what++) {
            Check.due(run + "latest " + what, quick.latest(what), slow.latest[what]);
        }
    }

    private void compareAll() {
        int begin = dice.nextInt(19);
        for (int k = 0; k < 19; k++) {
            int what = (begin + k) % 19;
            if (what != 14) {
                Check.due(run + "count " + what, quick.count(what), slow.net.count(what));
            }
        }
        compareRow("walk ", slow.net.walk(), quick::walk);
        compareRow("row ", slow.net.row(), quick::row);
        for (int depth = -1; depth < 17; depth++) {
            Check.due(run + "level " + depth, quick.level(depth), slow.net.level(depth));
        }
        for (int v = 0; v < slow.net.nodes; v++) {
            compareNode(v);
            for (int w = 0; w < slow.net.nodes; w++) {
                comparePair(v, w);
            }
        }
        for (int i = 0; i < slow.net.arcs.size(); i++) {
            compareArc(i);
        }
        int[] best = slow.net.best();
        for (int what = 0; what < 3; what++) {
            Check.due(run + "best " + what, quick.best(what), best[what]);
        }
        Check.due(run + "worst 0", quick.worst(0), slow.net.worst()[0]);
        Check.due(run + "worst 1", quick.worst(1), slow.net.worst()[1]);
        for (int i = 0; i < 20; i++) {
            int set = dice.nextInt(1 << slow.net.nodes);
            Check.due(run + "seal " + set, quick.seal(set), slow.net.sealed(set));
        }
    }

    /** A question about the k-th of a row. */
    private interface Kth {
        int get(int k);
    }

    private void compareRow(String call, List<Integer> want, Kth got) {
        for (int k = -2; k < want.size() + 2; k++) {
            boolean is = k >= 0 && k < want.size();
            Check.due(run + call + k, got.get(k), is ? want.get(k) : -1);
        }
    }

    private void compareNode(int v) {
        SlowNet net = slow.net;
        int[] want = {net.reached(v) ? 1 : 0, net.keeper(v), net.depth(v), net.gates(v), net.kept(v),
            net.keptNearest(v), net.edge(v), net.body(v), net.nest(v), net.near(v), net.outKeeper(v),
            net.outGates(v), net.hard(v), net.wall(v), net.tolls[v], net.fee(v), net.fare(v),
            net.controls(v), net.ring(v), net.inner(v), net.outer(v), net.tied(v)};
        // begun anywhere, so that no answer leans on the question ahead of it
        int begin = dice.nextInt(want.length);
        for (int k = 0; k < want.length; k++) {
            int what = (begin + k) % want.length;
            Check.due(run + "node " + v + " " + what, quick.node(v, what), want[what]);
        }
        Check.dueThrow(run + "node", NoSuchElementException.class, () -> quick.node(v, want.length));
        Check.due(run + "without " + v, quick.without(v), net.sealed(1 << v) | (v == net.root ? net.kept(v) : 0));
        compareRow("chain " + v + " ", net.chain(v), k -> quick.chain(v, k));
        compareText(v);
        Check.due(run + "pass " + v + " all", quick.pass(v, -1), net.reached(v) ? net.pass(v).size() : -1);
        List<Integer> pass = net.reached(v) ? net.pass(v) : List.of();
        for (int k = 0; k < pass.size() + 2; k++) {
            Check.due(run + "pass " + v + " " + k, quick.pass(v, k), k < pass.size() ? pass.get(k) : -1);
        }
    }

    private void compareText(int v) {
        StringBuilder text = new StringBuilder();
        for (int g : slow.net.chain(v)) {
            text.append(text.length() > 0 ? " " : "").append(g);
        }
        Check.due(run + "text " + v, quick.text(v), text.length());
        for (int k = -1; k <= text.length(); k++) {
            boolean is = k >= 0 && k < text.length();
            Check.due(run + "octet " + k, quick.octet(k), is ? text.charAt(k) : -1);
        }
    }

    private void comparePair(int v, int w) {
        SlowNet net = slow.net;
        Check.due(run + "keeps " + v + " " + w, quick.keeps(v, w), net.keeps(v, w));
        Check.due(run + "common " + v + " " + w, quick.common(v, w), net.common(v, w));
        Check.due(run + "via " + v + " " + w, quick.via(v, w), net.via(v, w));
        int[] would = net.would(v, w);
        Check.due(run + "would " + v + " " + w + " 0", quick.would(v, w, 0), would[0]);
        Check.due(run + "would " + v + " " + w + " 1", quick.would(v, w, 1), would[2]);
        Check.due(run + "would " + v + " " + w + " 2", quick.would(v, w, 2), would[3]);
    }

    private void compareArc(int i) {
        SlowNet net = slow.net;
        boolean open = net.open.get(i);
        int[] want = {net.arcs.get(i)[0], net.arcs.get(i)[1], open ? 1 : 0, net.kind(i), net.isBridge(i) ? 1 : 0};
        for (int what = 0; what < want.length; what++) {
            Check.due(run + "arc " + i + " " + what, quick.arc(i, what), want[what]);
        }
        if (!open) {
            Check.dueThrow(run + "fall " + i, IllegalStateException.class, () -> quick.fall(i, 0));
            return;
        }
        int[] fall = net.fall(i);
        for (int what = 0; what < 3; what++) {
            Check.due(run + "fall " + i + " " + what, quick.fall(i, what), fall[what + 1]);
        }
    }
}
