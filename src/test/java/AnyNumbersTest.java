import java.util.NoSuchElementException;

/** Any numbers in any state: each call throws just what the document says, and what throws changes nothing. */
public final class AnyNumbersTest {
    private static final int[] NUMBERS = {Integer.MIN_VALUE, Integer.MIN_VALUE + 1, -65536, -257, -65, -33, -32, -17, -16,
        -2, -1, 0, 1, 2, 3, 4, 5, 7, 8, 9, 13, 14, 15, 16, 17, 18, 19, 20, 21, 22, 31, 32, 33, 58, 59, 60, 61, 63, 64, 65,
        99, 100, 127, 128, 255, 256, 399, 400, 401, 65535, 65536, 1 << 30, Integer.MAX_VALUE - 1, Integer.MAX_VALUE};
    private static final String[] STATES = {"", "net 2", "net 2;lay 0 1,1 0,0 0;root 1;exit 0;shut 0",
        "lay 0 1,1 2,2 3,3 1,5 6,6 6;shut 3;exit 3;toll 2 0",
        "net 16;lay 0 15,15 1,1 14,14 0,0 13,13 2,2 12,12 13,13 13" + ",2 3,4 4".repeat(25) + ",14 2;shut 59,4",
        "net 15;root 7;exit 7;lay 7 8,7 9,8 10,9 10,10 7,14 0"};
    private static final Class<IndexOutOfBoundsException> NO_INDEX = IndexOutOfBoundsException.class;
    private static final Class<NoSuchElementException> NO_WHAT = NoSuchElementException.class;
    private static final Class<IllegalArgumentException> NO_ARGUMENT = IllegalArgumentException.class;
    private static final Class<IllegalStateException> NO_STATE = IllegalStateException.class;

    private static String state = "";

    private AnyNumbersTest() {
    }

    public static void main(String[] args) {
        for (String text : STATES) {
            state = text;
            GateLifter x = Texts.of(text);
            for (int a : NUMBERS) {
                askOne(x, a);
                actOne(x, a);
                for (int b : NUMBERS) {
                    askTwo(x, a, b);
                    actTwo(x, a, b);
                }
            }
            for (int what : NUMBERS) {
                askThree(x, what);
            }
        }
        Check.finish();
    }

    /** What a call is due to throw, or null; what throws may change WHY alone, by an act that is refused. */
    private static boolean due(GateLifter x, String call, Class<? extends RuntimeException> want, int why, Check.Call tried) {
        String before = State.withoutWhyAndFault(x);
        int wasWhy = x.why();
        int fault = x.fault();
        call = state + " " + call;
        if (want == null) {
            Check.due(call + " answers", answers(call, tried), true);
            return true;
        }
        Check.dueThrow(call, want, tried);
        Check.due(call + ": why", x.why(), why < 0 ? wasWhy : why);
        Check.due(call + ": fault", x.fault(), fault);
        Check.due(call + ": all behind it", State.withoutWhyAndFault(x), before);
        return false;
    }

    private static boolean answers(String call, Check.Call tried) {
        try {
            tried.answer();
            return true;
        } catch (RuntimeException e) {
            System.out.println(call + " threw " + e);
            return false;
        }
    }

    private static boolean isNode(GateLifter x, int node) {
        return node >= 0 && node < x.count(0);
    }

    private static boolean isArc(GateLifter x, int arc) {
        return arc >= 0 && arc < x.count(3);
    }

    private static Class<? extends RuntimeException> ofWhat(boolean is, int what, int most) {
        return !is ? NO_INDEX : what < 0 || what > most ? NO_WHAT : null;
    }

    private static void askOne(GateLifter x, int a) {
        due(x, "walk " + a, null, -1, () -> x.walk(a));
        due(x, "row " + a, null, -1, () -> x.row(a));
        due(x, "level " + a, null, -1, () -> x.level(a));
        due(x, "octet " + a, null, -1, () -> x.octet(a));
        due(x, "count " + a, null, -1, () -> x.count(a));
        due(x, "without " + a, isNode(x, a) ? null : NO_INDEX, -1, () -> x.without(a));
        due(x, "text " + a, isNode(x, a) ? null : NO_INDEX, -1, () -> x.text(a));
        due(x, "latest " + a, ofWhat(true, a, 3), -1, () -> x.latest(a));
        due(x, "worst " + a, ofWhat(true, a, 1), -1, () -> x.worst(a));
        due(x, "best " + a, ofWhat(true, a, 2), -1, () -> x.best(a));
        boolean fits = a >= 0 && (long) a < 1L << x.count(0);
        due(x, "seal " + a, fits ? null : NO_ARGUMENT, -1, () -> x.seal(a));
        due(x, "end " + a, null, -1, () -> x.end(a) ? 1 : 0);
        due(x, "feed " + a, null, -1, () -> x.feed(a, a, a, a, a));
    }

    private static void askTwo(GateLifter x, int a, int b) {
        String two = " " + a + " " + b;
        boolean nodes = isNode(x, a) && isNode(x, b);
        due(x, "node" + two, ofWhat(isNode(x, a), b, 21), -1, () -> x.node(a, b));
        due(x, "arc" + two, ofWhat(isArc(x, a), b, 4), -1, () -> x.arc(a, b));
        Class<? extends RuntimeException> ofFall = ofWhat(isArc(x, a), b, 2);
        boolean isShut = ofFall == null && x.arc(a, 2) == 0;
        due(x, "fall" + two, isShut ? NO_STATE : ofFall, -1, () -> x.fall(a, b));
        due(x, "keeps" + two, nodes ? null : NO_INDEX, -1, () -> x.keeps(a, b) ? 1 : 0);
        due(x, "common" + two, nodes ? null : NO_INDEX, -1, () -> x.common(a, b));
        due(x, "via" + two, nodes ? null : NO_INDEX, -1, () -> x.via(a, b));
        due(x, "chain" + two, isNode(x, a) ? null : NO_INDEX, -1, () -> x.chain(a, b));
        due(x, "pass" + two, isNode(x, a) ? null : NO_INDEX, -1, () -> x.pass(a, b));
        due(x, "would" + two, nodes ? null : NO_INDEX, -1, () -> x.would(a, b, 0));
    }

    private static void askThree(GateLifter x, int what) {
        for (int a : new int[] {-1, 0, 1, x.count(0) - 1, x.count(0)}) {
            for (int b : new int[] {-1, 0, 1, x.count(0) - 1, x.count(0)}) {
                boolean nodes = isNode(x, a) && isNode(x, b);
                due(x, "would " + a + " " + b + " " + what, ofWhat(nodes, what, 2), -1, () -> x.would(a, b, what));
            }
        }
    }

    /** An act, taken back where it is done. */
    private static void dueAct(GateLifter x, String call, int why, Check.Call tried) {
        if (due(x, call, why == 0 ? null : NO_STATE, why, tried)) {
            Check.due(call + ": why", x.why(), 0);
            Check.due(call + ": undo", x.undo(), 0);
        }
    }

    private static void actOne(GateLifter x, int a) {
        int root = !isNode(x, a) ? 1 : x.count(1) == a ? 4 : 0;
        dueAct(x, "root " + a, root, () -> x.tell(a, false));
        int exit = !isNode(x, a) ? 1 : x.count(2) == a ? 4 : 0;
        dueAct(x, "exit " + a, exit, () -> x.tell(a, true));
        dueAct(x, "shut " + a, !isArc(x, a) ? 3 : x.arc(a, 2) == 0 ? 4 : 0, () -> x.shut(a));
        dueAct(x, "open " + a, !isArc(x, a) ? 3 : x.arc(a, 2) == 1 ? 4 : 0, () -> x.open(a));
        if (a < 2 || a > 16) {
            due(x, "net " + a, NO_ARGUMENT, -1, () -> {
                x.net(a);
                return 0;
            });
        }
    }

    private static void actTwo(GateLifter x, int a, int b) {
        String two = " " + a + " " + b;
        int lay = !isNode(x, a) || !isNode(x, b) ? 1 : x.count(3) == 60 ? 2 : 0;
        dueAct(x, "lay" + two, lay, () -> x.lay(a, b));
        if (b < 0 || b > 99) {
            due(x, "toll" + two, NO_ARGUMENT, -1, () -> x.toll(a, b));
        } else {
            int toll = !isNode(x, a) ? 1 : x.node(a, 14) == b ? 4 : 0;
            dueAct(x, "toll" + two, toll, () -> x.toll(a, b));
        }
    }
}
