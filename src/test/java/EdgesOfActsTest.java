import java.util.NoSuchElementException;

/** The edges that the document names for acts by calls, what is TAKEN BACK, the latest act, THE IMAGE: each sentence. */
public final class EdgesOfActsTest {
    private static final Class<NoSuchElementException> NO_WHAT = NoSuchElementException.class;
    private static final Class<IllegalArgumentException> NO_ARGUMENT = IllegalArgumentException.class;
    private static final Class<IllegalStateException> NO_STATE = IllegalStateException.class;
    private static final int[] FAR = {-2, -1, 99, 1000, Integer.MIN_VALUE, Integer.MAX_VALUE};

    private EdgesOfActsTest() {
    }

    public static void main(String[] args) {
        atFirst();
        netToldSize();
        netAsAtFirst();
        bothMayBeOne();
        told();
        toldRefused();
        laid();
        laidRefused();
        toItselfAndAlike();
        shut();
        opened();
        shutAndOpenRefused();
        toll();
        tollRefused();
        takenBack();
        eightRemembered();
        noneRemembered();
        notRefused();
        whyByCalls();
        latestNone();
        latestSets();
        latestLift();
        latestOfEach();
        imageOfAll();
        imageLeaves();
        oneImage();
        noImage();
        Check.finish();
    }

    private static void dueCounts(GateLifter x, int... want) {
        for (int what = 0; what < want.length; what++) {
            Check.due("count(" + what + ")", x.count(what), want[what]);
        }
    }

    private static void dueLatest(GateLifter x, int... want) {
        for (int what = 0; what < 4; what++) {
            Check.due("latest(" + what + ")", x.latest(what), want[what]);
        }
    }

    /** Each call that tells an act, where it is refused by a number. */
    private static void refused(GateLifter x, int why, Check.Call call) {
        String before = State.withoutWhyAndFault(x);
        int fault = x.fault();
        Check.dueThrow("refused by " + why, NO_STATE, call);
        Check.due("why", x.why(), why);
        Check.due("fault", x.fault(), fault);
        Check.due("all behind what is refused", State.withoutWhyAndFault(x), before);
    }

    private static GateLifter net(int nodes) {
        GateLifter x = new GateLifter();
        x.net(nodes);
        return x;
    }

    private static int fill(GateLifter x) {
        for (int i = x.count(3); i < 60; i++) {
            x.lay(0, 1);
        }
        return x.count(3);
    }

    // ---- a new object, net

    private static void atFirst() {
        Check.sentence("8 at first ... ROOT (0 at first), one EXIT (the last at first ...) ... a TOLL ... (1 at first)");
        GateLifter x = new GateLifter();
        dueCounts(x, 8, 0, 7, 0, 0, 1, 0, 0, 0, 0, 1, 0, 1, 0, 0, 0, 1, 1, 0);
        for (int v = 0; v < 8; v++) {
            Check.due("toll of " + v, x.node(v, 14), 1);
            Check.due("reached " + v, x.node(v, 0), v == 0 ? 1 : 0);
        }
        Check.due("a second object has a net of its own", new GateLifter().lay(7, 7) + x.count(3), 0);
        Check.due("why", x.why(), 0);
        Check.due("fault", x.fault(), -1);
        dueLatest(x, 0, 0, 0, 0);
    }

    private static void netToldSize() {
        Check.sentence("NODES 2 to 16 ... IllegalArgumentException: there cannot be so many");
        GateLifter x = new GateLifter();
        x.lay(0, 1);
        for (int nodes : new int[] {1, 0, -1, 17, 18, 32, Integer.MIN_VALUE, Integer.MAX_VALUE}) {
            String before = State.of(x);
            Check.dueThrow("net(" + nodes + ")", NO_ARGUMENT, () -> {
                x.net(nodes);
                return 0;
            });
            Check.due("all behind it", State.of(x), before);
        }
        for (int nodes = 2; nodes <= 16; nodes++) {
            x.net(nodes);
            dueCounts(x, nodes, 0, nodes - 1, 0, 0, 1);
            Check.due("lay to the last", x.lay(0, nodes - 1), 0);
            refused(x, 1, () -> x.lay(0, x.count(0)));
        }
    }

    private static void netAsAtFirst() {
        Check.sentence("NET: all is as at first, with so many NODES (EXIT is the last), no ARCS");
        GateLifter x = net(8);
        x.lay(0, 3);
        x.lay(3, 3);
        x.shut(1);
        x.toll(3, 5);
        x.tell(3, false);
        x.tell(4, true);
        x.net(8);
        Check.due("all", State.of(x), State.of(new GateLifter()));
        x.lay(0, 1);
        Check.due("the first arc is open, though 1 was shut", x.lay(0, 1) + x.arc(1, 2), 2);
        Check.due("text with net", Texts.tell(x, "toll 2 9;root 1;shut 0;net 8"), 4);
        Check.due("all", State.of(x), State.of(new GateLifter()));
        x.net(16);
        x.toll(15, 7);
        x.net(2);
        x.net(16);
        Check.due("toll of 15", x.node(15, 14), 1);
    }

    // ---- root, exit

    private static void bothMayBeOne() {
        Check.sentence("one of them ROOT ..., one EXIT (...; both may be one)");
        GateLifter x = net(3);
        Check.due("exit told to be the root", x.tell(0, true), 2);
        Check.due("exit", x.count(2), 0);
        Check.due("out gates of the root", x.node(0, 11), 0);
        Check.due("out keeper of the root", x.node(0, 10), -1);
        x.lay(0, 1);
        x.lay(1, 0);
        Check.due("out gates of 1", x.node(1, 11), 1);
        Check.due("out keeper of 1", x.node(1, 10), 0);
        Check.due("spans, 1 being no out gate of 0", x.count(15), 0);
        x.tell(1, true);
        Check.due("root told to be the exit", x.tell(1, false), 0);
        Check.due("root", x.count(1), 1);
        Check.due("out gates of 0", x.node(0, 11), 2);
        Check.due("text", Texts.tell(x, "root 2;exit 2"), 2);
    }

    private static void told() {
        Check.sentence("ROOT (exit false) or EXIT is told: what it was");
        GateLifter x = net(16);
        Check.due("root 15", x.tell(15, false), 0);
        Check.due("root 14", x.tell(14, false), 15);
        Check.due("exit 0", x.tell(0, true), 15);
        Check.due("exit 14", x.tell(14, true), 0);
        Check.due("exit 15", x.tell(15, true), 14);
        dueCounts(x, 16, 14, 15);
    }

    private static void toldRefused() {
        Check.sentence("ROOT, EXIT told. Refused: 1: there is no such NODE; 4: it is so already");
        GateLifter x = net(5);
        refused(x, 4, () -> x.tell(0, false));
        refused(x, 4, () -> x.tell(4, true));
        refused(x, 1, () -> x.tell(5, false));
        refused(x, 1, () -> x.tell(5, true));
        for (int node : FAR) {
            refused(x, 1, () -> x.tell(node, false));
            refused(x, 1, () -> x.tell(node, true));
        }
        Check.due("root 4", x.tell(4, false), 0);
        Check.due("exit 0", x.tell(0, true), 4);
        refused(x, 4, () -> x.tell(4, false));
        refused(x, 4, () -> x.tell(0, true));
    }

    // ---- lay, shut, open

    private static void laid() {
        Check.sentence("LAY: one ARC more, OPEN ... its number");
        GateLifter x = net(2);
        for (int i = 0; i < 60; i++) {
            Check.due("lay", x.lay(i % 2, 1), i);
            Check.due("open", x.arc(i, 2), 1);
            Check.due("arcs", x.count(3), i + 1);
        }
        x.undo();
        Check.due("the number is free again", x.lay(0, 0), 59);
        Check.due("to", x.arc(59, 1), 0);
    }

    private static void laidRefused() {
        Check.sentence("LAY ... (1; 2: there are 60)");
        GateLifter x = net(4);
        refused(x, 1, () -> x.lay(0, 4));
        refused(x, 1, () -> x.lay(4, 0));
        for (int node : FAR) {
            refused(x, 1, () -> x.lay(0, node));
            refused(x, 1, () -> x.lay(node, 0));
        }
        Check.due("sixty", fill(x), 60);
        Check.due("why of the sixtieth", x.why(), 0);
        refused(x, 2, () -> x.lay(0, 1));
        refused(x, 2, () -> x.lay(3, 3));
        refused(x, 1, () -> x.lay(0, 4));
        refused(x, 1, () -> x.lay(-1, 0));
        x.shut(59);
        refused(x, 2, () -> x.lay(0, 1));
        x.undo();
        x.undo();
        Check.due("the sixtieth again", x.lay(2, 3), 59);
        refused(x, 2, () -> x.lay(2, 3));
        x.net(4);
        Check.due("the first of a new net", x.lay(2, 3), 0);
    }

    private static void toItselfAndAlike() {
        Check.sentence("from a NODE to a NODE (it itself, too; several may be alike)");
        GateLifter x = net(3);
        x.lay(0, 0);
        x.lay(0, 1);
        x.lay(0, 1);
        x.lay(1, 1);
        x.lay(1, 1);
        dueCounts(x, 3, 0, 2, 5, 5, 3, 1, 3, 3, 0);
        Check.due("hard", x.node(1, 12), 2);
        Check.due("shut of one", x.shut(1), 0);
        Check.due("shut of both", x.shut(2), 1);
    }

    private static void shut() {
        Check.sentence("SHUT: how many are LOST");
        GateLifter x = Texts.of("lay 0 1,1 2,2 3,3 4,2 4,5 6,6 6,0 2");
        Check.due("the end of none", x.shut(5), 0);
        Check.due("a back arc of none", x.shut(6), 0);
        Check.due("one of two", x.shut(7), 0);
        Check.due("one alone", x.shut(2), 1);
        Check.due("lost", x.latest(1), 8);
        Check.due("all but the root", x.shut(0), 3);
        Check.due("lost", x.latest(1), 22);
        Check.due("of what nobody comes to", x.shut(1), 0);
        GateLifter row = Texts.of("net 16;lay 0 1,1 2,2 3,3 4,4 5,5 6,6 7,7 8,8 9,9 10,10 11,11 12,12 13,13 14,14 15");
        Check.due("fifteen", row.shut(0), 15);
        Check.due("fifteen again", row.open(0), 15);
    }

    private static void opened() {
        Check.sentence("OPEN: how many are GAINED");
        GateLifter x = Texts.of("lay 0 1,1 2,2 3,0 3,4 5;shut 0,3,4");
        Check.due("by another way", x.open(3), 1);
        Check.due("gained", x.latest(0), 8);
        Check.due("two more", x.open(0), 2);
        Check.due("gained", x.latest(0), 6);
        Check.due("where nobody comes", x.open(4), 0);
        x.shut(2);
        Check.due("nobody new", x.open(2), 0);
    }

    private static void shutAndOpenRefused() {
        Check.sentence("SHUT, OPEN of an ARC (3: there is no such ARC; 4)");
        GateLifter x = net(4);
        refused(x, 3, () -> x.shut(0));
        refused(x, 3, () -> x.open(0));
        x.lay(0, 1);
        refused(x, 4, () -> x.open(0));
        refused(x, 3, () -> x.shut(1));
        refused(x, 3, () -> x.open(1));
        x.shut(0);
        refused(x, 4, () -> x.shut(0));
        for (int arc : FAR) {
            refused(x, 3, () -> x.shut(arc));
            refused(x, 3, () -> x.open(arc));
        }
        fill(x);
        for (int arc : new int[] {60, 61, 63, 64, 123, 124}) {
            refused(x, 3, () -> x.shut(arc));
            refused(x, 3, () -> x.open(arc));
        }
        x.shut(59);
        refused(x, 4, () -> x.shut(59));
        x.open(59);
        refused(x, 4, () -> x.open(59));
        x.undo();
        refused(x, 4, () -> x.shut(59));
    }

    // ---- tolls

    private static void toll() {
        Check.sentence("TOLL is told: what it was ... Each NODE has a TOLL 0 to 99");
        GateLifter x = net(16);
        Check.due("toll(15, 99)", x.toll(15, 99), 1);
        Check.due("toll(15, 0)", x.toll(15, 0), 99);
        Check.due("toll(0, 0)", x.toll(0, 0), 1);
        Check.due("toll(0, 1)", x.toll(0, 1), 0);
        Check.due("of who is not reached", x.node(15, 14), 0);
        x.undo();
        Check.due("taken back", x.node(0, 14), 0);
    }

    private static void tollRefused() {
        Check.sentence("TOLL of a NODE told (1; 4) ... IllegalArgumentException: it is none; IllegalStateException: refused");
        GateLifter x = net(5);
        refused(x, 4, () -> x.toll(0, 1));
        refused(x, 1, () -> x.toll(5, 0));
        refused(x, 1, () -> x.toll(5, 1));
        for (int node : FAR) {
            refused(x, 1, () -> x.toll(node, 0));
            refused(x, 1, () -> x.toll(node, 99));
        }
        x.toll(2, 0);
        refused(x, 4, () -> x.toll(2, 0));
        x.toll(2, 99);
        refused(x, 4, () -> x.toll(2, 99));
        for (int toll : new int[] {-1, 100, Integer.MIN_VALUE, Integer.MAX_VALUE}) {
            String before = State.of(x);
            Check.dueThrow("toll(2, " + toll + ")", NO_ARGUMENT, () -> x.toll(2, toll));
            Check.dueThrow("toll(5, " + toll + ")", NO_ARGUMENT, () -> x.toll(5, toll));
            Check.dueThrow("toll(-1, " + toll + ")", NO_ARGUMENT, () -> x.toll(-1, toll));
            Check.due("all behind it", State.of(x), before);
        }
    }

    // ---- what is taken back

    private static void takenBack() {
        Check.sentence("TAKEN BACK: the latest ACT that was done by a call and not refused, not taken back yet ...: "
                + "all is as ahead of it ... how many ACTS are remembered then");
        GateLifter x = Texts.of("lay 0 1,1 2,2 3,3 1,1 5;exit 3;toll 2 7");
        String[] states = new String[7];
        states[0] = State.ofNet(x);
        x.lay(0, 2);
        states[1] = State.ofNet(x);
        x.shut(1);
        states[2] = State.ofNet(x);
        x.open(1);
        states[3] = State.ofNet(x);
        x.toll(2, 0);
        states[4] = State.ofNet(x);
        x.tell(1, false);
        states[5] = State.ofNet(x);
        x.tell(0, true);
        for (int left = 5; left >= 0; left--) {
            Check.due("undo", x.undo(), left);
            Check.due("all is as ahead of it", State.ofNet(x), states[left]);
            Check.due("count(14)", x.count(14), left);
        }
        String before = State.of(x);
        Check.dueThrow("undo of none", NO_STATE, x::undo);
        Check.due("all behind it", State.of(x), before);
        x.lay(2, 2);
        x.lay(4, 4);
        x.undo();
        x.lay(6, 6);
        Check.due("behind what was taken back others are done", x.undo(), 1);
        Check.due("undo", x.undo(), 0);
        Check.due("arcs", x.count(3), 5);
    }

    private static void eightRemembered() {
        Check.sentence("(8 are remembered)");
        GateLifter x = net(16);
        for (int i = 1; i <= 20; i++) {
            x.toll(i % 3, i + 1);
            Check.due("count(14)", x.count(14), Math.min(i, 8));
        }
        for (int i = 19; i >= 12; i--) {
            Check.due("undo", x.undo(), i - 12);
            Check.due("the latest toll", x.node(i % 3, 14), i + 1);
        }
        Check.dueThrow("undo of the ninth", NO_STATE, x::undo);
        Check.due("what it was", x.node(0, 14) + x.node(1, 14) + x.node(2, 14), 13 + 11 + 12);
        x.lay(0, 1);
        Check.due("count(14)", x.count(14), 1);
        Check.due("undo", x.undo(), 0);
    }

    private static void noneRemembered() {
        Check.sentence("NET told, a text that is right, going back: none are remembered");
        GateLifter x = net(4);
        x.lay(0, 1);
        x.image();
        Check.due("by an image they are", x.count(14), 1);
        x.net(4);
        Check.due("net", x.count(14), 0);
        Check.dueThrow("undo behind net", NO_STATE, x::undo);
        x.lay(0, 1);
        Texts.tell(x, "lay 0 2");
        Check.due("a right text", x.count(14), 0);
        Check.dueThrow("undo behind a right text", NO_STATE, x::undo);
        x.lay(0, 1);
        Texts.tell(x, "lay 0 2;");
        Check.due("by a wrong text they are", x.count(14), 1);
        x.back();
        Check.due("going back", x.count(14), 0);
        Check.dueThrow("undo behind going back", NO_STATE, x::undo);
        Check.due("arcs", x.count(3), 1);
        x.lay(0, 1);
        Check.dueThrow("net(17)", NO_ARGUMENT, () -> {
            x.net(17);
            return 0;
        });
        Check.due("by a net that cannot be they are", x.count(14), 1);
        Check.due("undo", x.undo(), 0);
    }

    private static void notRefused() {
        Check.sentence("done by a call and not refused");
        GateLifter x = net(4);
        x.lay(0, 1);
        for (int i = 0; i < 10; i++) {
            refused(x, 3, () -> x.shut(1));
            refused(x, 4, () -> x.tell(0, false));
        }
        Check.due("undo takes back what was done", x.undo(), 0);
        Check.due("arcs", x.count(3), 0);
    }

    private static void whyByCalls() {
        Check.sentence("WHY (0 at first): of the latest ACT by a call ... the number by which it was refused; 0, if it was done");
        GateLifter x = new GateLifter();
        Check.due("at first", x.why(), 0);
        refused(x, 1, () -> x.lay(8, 0));
        x.count(0);
        x.image();
        x.feed(0, 0, 0, 0, 0);
        x.end(0);
        Check.due("questions leave it", x.why(), 1);
        x.lay(0, 1);
        Check.due("lay done", x.why(), 0);
        refused(x, 3, () -> x.open(1));
        x.shut(0);
        Check.due("shut done", x.why(), 0);
        refused(x, 4, () -> x.shut(0));
        x.open(0);
        Check.due("open done", x.why(), 0);
        refused(x, 4, () -> x.open(0));
        x.toll(1, 2);
        Check.due("toll done", x.why(), 0);
        refused(x, 4, () -> x.toll(1, 2));
        x.tell(1, true);
        Check.due("exit done", x.why(), 0);
        refused(x, 4, () -> x.tell(1, true));
        x.tell(1, false);
        Check.due("root done", x.why(), 0);
        refused(x, 1, () -> x.tell(8, false));
        Check.sentence("NET (WHY is 0 then)");
        x.net(8);
        Check.due("net", x.why(), 0);
    }

    // ---- the latest act

    private static void latestNone() {
        Check.sentence("(none of these ahead of any, and since NET, a text that was right, TAKEN BACK, going back)");
        GateLifter x = new GateLifter();
        dueLatest(x, 0, 0, 0, 0);
        Texts.tell(x, "lay 0 1,1 2");
        dueLatest(x, 0, 0, 0, 0);
        x.image();
        x.lay(0, 2);
        dueLatest(x, 0, 0, 4, 1);
        Texts.tell(x, "toll 3 3");
        dueLatest(x, 0, 0, 0, 0);
        x.shut(2);
        dueLatest(x, 0, 0, 4, -1);
        x.undo();
        dueLatest(x, 0, 0, 0, 0);
        x.shut(2);
        x.back();
        dueLatest(x, 0, 0, 0, 0);
        x.lay(1, 3);
        dueLatest(x, 8, 0, 0, 0);
        Texts.tell(x, "toll 3 3;");
        dueLatest(x, 8, 0, 0, 0);
        refused(x, 3, () -> x.shut(9));
        dueLatest(x, 8, 0, 0, 0);
        x.net(3);
        dueLatest(x, 0, 0, 0, 0);
        x.lay(0, 1);
        dueLatest(x, 2, 0, 0, 0);
        x.toll(0, 0);
        x.undo();
        dueLatest(x, 0, 0, 0, 0);
        for (int what : new int[] {-1, 4, Integer.MIN_VALUE, Integer.MAX_VALUE}) {
            Check.dueThrow("latest(" + what + ")", NO_WHAT, () -> x.latest(what));
        }
    }

    private static void latestSets() {
        Check.sentence("GAINED: NODES that are REACHED and were not; LOST: that were and are not; "
                + "MOVED: that were and are, with another KEEPER");
        GateLifter x = Texts.of("net 16;lay 1 2,2 15,0 3,3 4,15 4;toll 4 2");
        x.lay(0, 1);
        dueLatest(x, 1 << 1 | 1 << 2 | 1 << 15, 0, 1 << 4, 1);
        x.shut(5);
        dueLatest(x, 0, 1 << 1 | 1 << 2 | 1 << 15, 1 << 4, -1);
        // of 0, where another one is ROOT, likewise
        GateLifter z = Texts.of("net 3;root 2;lay 2 1,1 0");
        z.lay(2, 0);
        dueLatest(z, 0, 0, 1, 1);
        z.shut(2);
        dueLatest(z, 0, 0, 1, -1);
        z.shut(1);
        dueLatest(z, 0, 1, 0, 0);
        z.open(1);
        dueLatest(z, 1, 0, 0, 0);
        // 4 is moved from keeper 3 to keeper 0, and to keeper 1, at the same depth
        GateLifter y = Texts.of("lay 0 1,1 2,2 4,1 3,3 4;shut 3");
        y.open(3);
        dueLatest(y, 8, 0, 16, 1);
        y.shut(1);
        dueLatest(y, 0, 4, 16, -1);
        Check.due("keeper", y.node(4, 1), 3);
    }

    private static void latestLift() {
        Check.sentence("LIFT: by how much DEPTHS of all that were and are are less, together (below 0, if they are more)");
        GateLifter x = Texts.of("net 16;lay 0 1,1 2,2 3,3 4,4 5,5 6,6 7,7 8,8 9,9 10,10 11,11 12,12 13,13 14,14 15");
        x.lay(0, 8);
        dueLatest(x, 0, 0, 1 << 8, 7 * 8);
        x.shut(15);
        dueLatest(x, 0, 0, 1 << 8, -7 * 8);
        x.lay(15, 3);
        dueLatest(x, 0, 0, 0, 0);
        x.shut(7);
        dueLatest(x, 0, 0xff00, 0, 0);
        x.open(15);
        dueLatest(x, 0xff00, 0, 1 << 3, 2 * 5);
    }

    private static void latestOfEach() {
        Check.sentence("By the latest ACT by a call that was done");
        GateLifter x = Texts.of("lay 0 1,1 2,0 2");
        x.shut(2);
        dueLatest(x, 0, 0, 4, -1);
        x.toll(1, 4);
        dueLatest(x, 0, 0, 0, 0);
        x.open(2);
        x.tell(2, true);
        dueLatest(x, 0, 0, 0, 0);
        x.lay(5, 6);
        dueLatest(x, 0, 0, 0, 0);
        x.tell(5, false);
        dueLatest(x, 96, 7, 0, 0);
        x.shut(3);
        dueLatest(x, 0, 64, 0, 0);
    }

    // ---- the image

    private static void imageOfAll() {
        Check.sentence("THE IMAGE ... of all may be kept, and gone back to");
        GateLifter x = Texts.of("net 9;lay 0 1,1 2,2 8,8 8,1 2;shut 4;root 1;exit 3;toll 8 80");
        x.tell(4, true);
        String before = State.ofNet(x);
        x.image();
        Check.due("all behind image", State.ofNet(x), before);
        Check.due("what is remembered stays", x.count(14), 1);
        x.net(2);
        x.lay(0, 1);
        Check.due("back", x.back(), true);
        Check.due("all behind back", State.ofNet(x), before);
        x.net(12);
        Texts.tell(x, "lay 11 3,3 4,10 10,9 1,8 2,7 3,3 3;shut 0;toll 8 3");
        Check.due("back", x.back(), true);
        Check.due("all behind back", State.ofNet(x), before);
        Texts.tell(x, "toll 0 0;open 4;shut 0;lay 2 3;root 0;exit 0");
        Check.due("back", x.back(), true);
        Check.due("all behind back", State.ofNet(x), before);
        Check.due("open of what was shut", x.open(4), 0);
        Check.due("lay", x.lay(0, 0), 5);
        Check.due("back", x.back(), true);
        Check.due("arcs", x.count(3), 5);
    }

    private static void imageLeaves() {
        Check.sentence("(but for the TAPE, fault(), WHY, what was written and THE IMAGE itself)");
        GateLifter x = Texts.of("lay 0 1,1 2");
        x.image();
        Texts.tell(x, "  shut 7");
        x.text(2);
        Texts.put(x, "exit 6;;");
        Check.due("back", x.back(), true);
        Check.due("the tape has eight", x.end(9), false);
        Check.due("the tape has six", x.end(6), true);
        Check.due("fault", x.fault(), 2);
        Check.due("why", x.why(), 3);
        Check.due("octet(4)", x.octet(4), '2');
        Check.due("octet(5)", x.octet(5), -1);
        Check.due("acts of the tape", Texts.acts(x), 1);
        Check.due("exit", x.count(2), 6);
        Check.due("the image is still kept", x.back(), true);
        Check.due("exit", x.count(2), 7);
        // neither does the image hold them
        GateLifter y = Texts.of("lay 0 1");
        refused(y, 3, () -> y.shut(1));
        y.text(1);
        y.image();
        y.lay(1, 2);
        y.text(0);
        Check.due("back", y.back(), true);
        Check.due("why", y.why(), 0);
        Check.due("octet(1)", y.octet(1), -1);
    }

    private static void oneImage() {
        Check.sentence("THE IMAGE (one)");
        GateLifter x = net(3);
        x.image();
        x.lay(0, 1);
        x.image();
        x.lay(1, 2);
        for (int i = 0; i < 3; i++) {
            Check.due("back", x.back(), true);
            Check.due("to the later one", x.count(3), 1);
        }
        x.image();
        x.back();
        Check.due("of what was gone back to", x.count(3), 1);
    }

    private static void noImage() {
        Check.sentence("true; false, and nothing happens, if none was kept");
        GateLifter x = Texts.of("lay 0 1");
        x.lay(1, 2);
        x.text(1);
        String before = State.of(x);
        Check.due("back", x.back(), false);
        Check.due("all behind it", State.of(x), before);
        Check.due("undo", x.undo(), 0);
    }
}
