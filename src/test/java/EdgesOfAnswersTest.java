import java.util.NoSuchElementException;

/** The edges that the document names for what is asked: a test for each sentence, on nets as small as may be. */
public final class EdgesOfAnswersTest {
    private static final Class<IndexOutOfBoundsException> NO_INDEX = IndexOutOfBoundsException.class;
    private static final Class<NoSuchElementException> NO_WHAT = NoSuchElementException.class;
    private static final Class<IllegalArgumentException> NO_ARGUMENT = IllegalArgumentException.class;
    private static final Class<IllegalStateException> NO_STATE = IllegalStateException.class;
    private static final int MIN = Integer.MIN_VALUE;
    private static final int MAX = Integer.MAX_VALUE;

    /** A row of sixteen from the last to the first. */
    private static final String ROW = "net 16;root 15;exit 0;"
            + "lay 15 14,14 13,13 12,12 11,11 10,10 9,9 8,8 7,7 6,6 5,5 4,4 3,3 2,2 1,1 0";
    private static final int ALL = 0xffff;

    private EdgesOfAnswersTest() {
    }

    public static void main(String[] args) {
        reached();
        gatesAndKeeper();
        common();
        walk();
        edge();
        backArcs();
        bodies();
        nest();
        sound();
        near();
        outGates();
        bridges();
        hard();
        wall();
        fee();
        fare();
        controls();
        spans();
        ring();
        worst();
        sealed();
        without();
        chain();
        level();
        via();
        pass();
        innerAndOuter();
        fall();
        row();
        tied();
        spare();
        would();
        best();
        kind();
        arcs();
        text();
        counts();
        noSuchNode();
        noSuchWhat();
        noLeastNet();
        Check.finish();
    }

    private static GateLifter of(String text) {
        return Texts.of(text);
    }

    private static void due(GateLifter x, int what, int... want) {
        for (int v = 0; v < want.length; v++) {
            Check.due("node(" + v + ", " + what + ")", x.node(v, what), want[v]);
        }
    }

    // ---- who is reached, and by whom one is kept

    private static void reached() {
        Check.sentence("A WAY goes ... by OPEN ARCS (a NODE alone is one, too). REACHED: to which a WAY goes from ROOT");
        due(of("net 3"), 0, 1, 0, 0);
        due(of("net 3;root 2"), 0, 0, 0, 1);
        due(of("net 3;lay 1 0,2 0"), 0, 1, 0, 0);
        due(of("net 3;lay 0 2,2 1"), 0, 1, 1, 1);
        due(of("net 3;lay 0 2,2 1;shut 1"), 0, 1, 0, 1);
        due(of("net 3;lay 0 2,2 1;shut 0"), 0, 1, 0, 0);
        Check.due("count(5)", of(ROW).count(5), ALL);
    }

    private static void gatesAndKeeper() {
        Check.sentence("KEEPER: ... none of ROOT ... DEPTH (NONE, if it is not REACHED) ... GATES ... NODES that it KEEPS ... as bits");
        GateLifter x = of("net 5;lay 0 1,1 0,1 2,4 2,4 3,3 4");
        due(x, 1, -1, 0, 1, -1, -1);
        due(x, 2, 0, 1, 2, -1, -1);
        due(x, 3, 0, 1, 3, 0, 0);
        due(x, 4, 6, 4, 0, 0, 0);
        due(x, 5, 2, 4, 0, 0, 0);
        due(of("root 3;lay 3 0,0 1,0 2"), 5, 6, 0, 0, 1);
        GateLifter row = of(ROW);
        Check.due("depth of 0", row.node(0, 2), 15);
        Check.due("gates of 0", row.node(0, 3), ALL - 1);
        Check.due("kept by 15", row.node(15, 4), ALL - 0x8000);
        Check.due("keeper of 14", row.node(14, 1), 15);
        Check.due("whose keeper 15 is", row.node(15, 5), 1 << 14);
        Check.sentence("A NODE KEEPS another one, if it is a GATE of it");
        for (int v = 0; v < 16; v++) {
            for (int w = 0; w < 16; w++) {
                Check.due("keeps(" + v + ", " + w + ")", row.keeps(v, w), v > w);
            }
        }
        Check.due("keeps by one not reached", x.keeps(4, 3), false);
        Check.due("keeps of one not reached", x.keeps(0, 3), false);
    }

    private static void common() {
        Check.sentence("COMMON of two REACHED NODES: of NODES that are, or KEEP, each of both ...; NONE, if one is not REACHED");
        GateLifter x = of("lay 0 1,0 2,1 3,2 3,3 4,3 5,6 7");
        int[][] dues = {{0, 0, 0}, {1, 1, 1}, {1, 2, 0}, {3, 4, 3}, {4, 3, 3}, {4, 5, 3}, {4, 4, 4}, {0, 5, 0},
            {1, 4, 0}, {6, 6, -1}, {6, 7, -1}, {0, 6, -1}, {6, 0, -1}};
        for (int[] due : dues) {
            Check.due("common(" + due[0] + ", " + due[1] + ")", x.common(due[0], due[1]), due[2]);
        }
        GateLifter row = of(ROW);
        for (int v = 0; v < 16; v++) {
            Check.due("common(" + v + ", 7)", row.common(v, 7), Math.max(v, 7));
        }
    }

    private static void dueWalk(GateLifter x, int... want) {
        for (int k = 0; k < want.length; k++) {
            Check.due("walk(" + k + ")", x.walk(k), want[k]);
        }
        for (int k : new int[] {-1, want.length, 15 + want.length, MIN, MAX}) {
            Check.due("walk(" + k + ")", x.walk(k), -1);
        }
    }

    private static void walk() {
        Check.sentence("of those with one KEEPER the lesser one with all that it KEEPS first ... (0 ROOT); NONE without");
        dueWalk(of("lay 0 2,0 1,2 3,1 4"), 0, 1, 4, 2, 3);
        dueWalk(of("lay 0 7,7 1,0 2,2 6,6 5,6 3,0 4"), 0, 2, 6, 3, 5, 4, 7, 1);
        dueWalk(of(""), 0);
        dueWalk(of("root 3;lay 0 1"), 3);
        dueWalk(of("root 3;lay 3 0,3 5,5 0"), 3, 0, 5);
        dueWalk(of(ROW), 15, 14, 13, 12, 11, 10, 9, 8, 7, 6, 5, 4, 3, 2, 1, 0);
        dueWalk(of("net 16;lay 0 15,0 14,0 13,0 12,0 11,0 10,0 9,0 8,0 7,0 6,0 5,0 4,0 3,0 2,0 1"),
                0, 1, 2, 3, 4, 5, 6, 7, 8, 9, 10, 11, 12, 13, 14, 15);
    }

    private static void edge() {
        Check.sentence("EDGE ...: NODES to which an OPEN ARC goes from it or from one that it KEEPS, and that it does "
                + "not KEEP (it itself may be one) ... (0, if it is not REACHED)");
        due(of("net 4;lay 0 1,1 2,2 1,3 0,3 3"), 6, 0, 2, 2, 0);
        due(of("net 4;lay 0 1,0 2,1 3,2 3,3 0"), 6, 1, 8, 8, 1);
        due(of("net 4;lay 0 1,0 2,1 3,2 3,3 0;shut 4"), 6, 0, 8, 8, 0);
        due(of("net 4;lay 0 0,0 1,1 1"), 6, 1, 2, 0, 0);
        // an arc to one's keeper leads out, one to whom one keeps does not
        due(of("net 4;lay 0 1,1 2,2 3,3 1,1 3"), 6, 0, 2, 8, 2);
    }

    // ---- loops

    private static void backArcs() {
        Check.sentence("BACK ARC: an OPEN one from a REACHED NODE to one that KEEPS it, or to itself");
        GateLifter x = of("net 5;lay 0 1,1 1,1 0,3 3,3 4,4 3,1 2,2 0,2 2;shut 8");
        int[] kinds = {3, 2, 2, 1, 1, 1, 3, 2, 0};
        for (int i = 0; i < kinds.length; i++) {
            Check.due("kind of " + i, x.arc(i, 3), kinds[i]);
        }
        Check.due("back arcs", x.count(8), 3);
        Check.due("heads", x.count(7), 3);
        // from a node beside, that is not kept, an arc is no back arc
        Check.due("back arcs of a circle with two ways in", of("lay 0 1,0 2,1 2,2 1").count(8), 0);
        Check.due("two alike", of("lay 0 0,0 0").count(8), 2);
    }

    private static void bodies() {
        Check.sentence("its BODY: it itself, and all NODES from which a WAY that does not pass it goes to where a BACK "
                + "ARC to it begins (that NODE, too), all REACHED ... (0, if it is no HEAD)");
        due(of("lay 0 1,1 2,2 3,3 1,4 2,2 5"), 7, 0, 14, 0, 0, 0, 0);
        due(of("net 4;lay 0 1,1 0,0 2"), 7, 3, 0, 0, 0);
        due(of("net 4;lay 0 0,0 1,1 1"), 7, 1, 2, 0, 0);
        // two back arcs to one head; an own arc beside another one adds nothing
        due(of("lay 0 1,1 2,1 3,2 1,3 1,1 1,3 4"), 7, 0, 14, 0, 0, 0);
        // 3 leads to where the back arc begins, 4 does not
        due(of("lay 0 1,1 2,1 3,3 2,2 1,3 4,2 4"), 7, 0, 14, 0, 0, 0);
        due(of("lay 0 1,1 2,2 1;shut 2"), 7, 0, 0, 0);
        due(of("lay 1 2,2 1"), 7, 0, 0, 0);
        Check.due("all in one", of(ROW + ",0 15").node(15, 7), ALL);
        GateLifter x = of("lay 0 1,1 2,2 1");
        due(x, 7, 0, 6, 0);
        Check.due("heads", x.count(7), 2);
        x.shut(2);
        due(x, 7, 0, 0, 0);
        Check.due("heads of none", x.count(7), 0);
        Check.due("the most nest of none", x.count(13), 0);
    }

    private static void nest() {
        Check.sentence("NEST of a NODE: how many BODIES have it ... the most NEST");
        GateLifter x = of("lay 0 1,1 2,2 2,2 1,1 0,5 5");
        due(x, 8, 1, 2, 3, 0, 0, 0);
        Check.due("the most nest", x.count(13), 3);
        Check.due("the most nest of none", of("lay 0 1").count(13), 0);
        StringBuilder all = new StringBuilder(ROW);
        for (int v = 1; v < 16; v++) {
            all.append(",0 ").append(v);
        }
        GateLifter row = of(all.append(",0 0").toString());
        Check.due("sixteen bodies", row.count(13), 16);
        Check.due("sixteen heads", row.count(7), ALL);
        Check.due("nest of the root", row.node(15, 8), 1);
        Check.due("nest of 0", row.node(0, 8), 16);
    }

    private static void sound() {
        Check.sentence("SOUND: whether no circle of OPEN ARCS of REACHED NODES is left without BACK ARCS");
        Check.due("no arcs", of("").count(10), 1);
        Check.due("an arc to itself", of("lay 0 0").count(10), 1);
        Check.due("a circle by the root", of("lay 0 1,1 2,2 0").count(10), 1);
        Check.due("a circle with two ways in", of("lay 0 1,0 2,1 2,2 1").count(10), 0);
        Check.due("with one of these shut", of("lay 0 1,0 2,1 2,2 1;shut 1").count(10), 1);
        Check.due("with an arc of it shut", of("lay 0 1,0 2,1 2,2 1;shut 2").count(10), 1);
        Check.due("with its ways in shut", of("lay 0 1,0 2,1 2,2 1;shut 0,1").count(10), 1);
        Check.due("of who is not reached", of("lay 3 1,3 2,1 2,2 1").count(10), 1);
        Check.due("of three", of("lay 0 1,0 2,1 2,2 3,3 1").count(10), 0);
        Check.due("behind others", of("lay 0 4,4 5,5 1,5 2,1 2,2 1,2 6,6 0").count(10), 0);
        Check.due("a row of sixteen", of(ROW).count(10), 1);
        Check.due("a row of sixteen with a circle at its end", of(ROW + ",15 0,0 1").count(10), 0);
    }

    private static void innerAndOuter() {
        Check.sentence("INNER ...: of HEADS whose BODY has it the one whose BODY has the fewest NODES, of several the "
                + "least; none; OUTER: likewise of HEADS of more NODES in their BODIES than INNER's has");
        GateLifter x = of("lay 0 1,1 2,2 2,2 1,1 0,0 3,3 0,5 5");
        due(x, 19, 0, 1, 2, 0, -1, -1);
        due(x, 20, -1, 0, 1, -1, -1, -1);
        // two bodies of two nodes with one in both: the lesser head
        GateLifter y = of("root 3;lay 3 2,2 3,3 1,1 0,0 1");
        due(y, 7, 0, 3, 0, 12);
        due(y, 19, 1, 1, 3, 3);
        // 2 is in the bodies of 0 and 1, which are equal in size but for the outermost of 4
        GateLifter z = of("root 4;lay 4 1,1 0,0 2,2 0,2 1,2 4");
        due(z, 7, 5, 7, 0, 0, 23);
        due(z, 19, 0, 1, 0, -1, 4);
        due(z, 20, 1, 4, 1, -1, -1);
        Check.due("none", of("lay 0 1").node(0, 19), -1);
        Check.due("none", of("lay 0 1").node(0, 20), -1);
    }

    // ---- ways from the root

    private static void near() {
        Check.sentence("NEAR: the fewest ARCS of a WAY from ROOT ... (NONE)");
        due(of("lay 0 1,1 2,2 3,0 3,4 4"), 9, 0, 1, 2, 1, -1);
        due(of("lay 0 1,1 2,2 3,0 3,4 4;shut 3"), 9, 0, 1, 2, 3, -1);
        due(of("lay 0 1,1 0,0 0;root 1"), 9, 1, 0, -1);
        Check.due("near of fifteen arcs", of(ROW).node(0, 9), 15);
    }

    private static void row() {
        Check.sentence("ROW: REACHED NODES by NEAR, of like ones by numbers ... (0 ROOT); NONE without");
        GateLifter x = of("root 4;lay 4 6,4 1,6 0,1 7,7 3,6 5,2 2");
        int[] row = {4, 1, 6, 0, 5, 7, 3};
        for (int k = 0; k < row.length; k++) {
            Check.due("row(" + k + ")", x.row(k), row[k]);
        }
        for (int k : new int[] {-1, 7, 8, 16, MIN, MAX}) {
            Check.due("row(" + k + ")", x.row(k), -1);
        }
        GateLifter circle = of("lay 0 1,1 2,2 0,2 1");
        for (int k = 0; k < 6; k++) {
            Check.due("row(" + k + ") of a circle", circle.row(k), k < 3 ? k : -1);
        }
        GateLifter all = of(ROW);
        for (int k = 0; k < 16; k++) {
            Check.due("row(" + k + ")", all.row(k), 15 - k);
        }
        Check.due("row(16)", all.row(16), -1);
        Check.due("row(1) of one", of("").row(1), -1);
    }

    private static void chain() {
        Check.sentence("CHAIN of a REACHED NODE: its GATES by DEPTH, ROOT first, itself last ... (0 ROOT); NONE without");
        GateLifter x = of("root 6;lay 6 5,5 1,5 2,1 4,2 4,4 3,0 7");
        int[] chain = {6, 5, 4, 3};
        for (int k = 0; k < chain.length; k++) {
            Check.due("chain(3, " + k + ")", x.chain(3, k), chain[k]);
        }
        for (int k : new int[] {-1, 4, 5, 16, MIN, MAX}) {
            Check.due("chain(3, " + k + ")", x.chain(3, k), -1);
        }
        Check.due("chain(6, 0)", x.chain(6, 0), 6);
        Check.due("chain(6, 1)", x.chain(6, 1), -1);
        for (int k = -1; k < 3; k++) {
            Check.due("chain(0, " + k + ") of one not reached", x.chain(0, k), -1);
        }
        Check.due("the last of sixteen", of(ROW).chain(0, 15), 0);
        Check.due("behind sixteen", of(ROW).chain(0, 16), -1);
    }

    private static void level() {
        Check.sentence("REACHED NODES of a DEPTH, as bits");
        GateLifter x = of("lay 0 1,0 2,1 3,2 3,3 4,6 7");
        int[] levels = {1, 14, 16, 0, 0};
        for (int depth = 0; depth < levels.length; depth++) {
            Check.due("level(" + depth + ")", x.level(depth), levels[depth]);
        }
        for (int depth : new int[] {-1, -2, 16, MIN, MAX}) {
            Check.due("level(" + depth + ")", x.level(depth), 0);
        }
        Check.due("level(15)", of(ROW).level(15), 1);
        Check.due("level(16)", of(ROW).level(16), 0);
    }

    private static void fee() {
        Check.sentence("FEE of a REACHED NODE: TOLLS of it and its GATES, together ... (NONE, if it is not REACHED)");
        due(of("lay 0 1,0 2,1 3,2 3,4 4;toll 0 10;toll 1 20;toll 2 40;toll 3 80"), 15, 10, 30, 50, 90, -1);
        due(of("toll 0 0;toll 1 0"), 15, 0, -1);
    }

    private static void fare() {
        Check.sentence("FARE: the least that TOLLS of all NODES of a WAY from ROOT to it (each once, both ends, too) come to");
        GateLifter x = of("lay 0 1,0 2,1 3,2 3,4 4,3 0,1 1;toll 0 10;toll 1 20;toll 2 40;toll 3 80");
        due(x, 16, 10, 30, 50, 110, -1);
        // a longer way that costs less
        due(of("lay 0 3,0 1,1 2,2 3,3 4;toll 3 5;toll 0 3"), 16, 3, 4, 5, 8, 9);
        due(of("lay 0 4,0 1,1 2,2 3,3 5,4 5;toll 4 99;toll 5 0"), 16, 1, 2, 3, 4, 100, 4);
        due(of("toll 0 0;toll 1 0"), 16, 0, -1);
        StringBuilder dear = new StringBuilder();
        for (int v = 3; v < 16; v++) {
            dear.append(v > 3 ? ";" : "").append("toll ").append(v).append(" 99");
        }
        GateLifter row = of(ROW);
        Texts.put(row, dear.toString());
        row.acts();
        row.toll(0, 99);
        row.toll(1, 99);
        row.toll(2, 99);
        Check.due("the dearest fare", row.node(0, 16), 16 * 99);
        Check.due("the dearest fee", row.node(0, 15), 16 * 99);
        Check.due("all tolls", row.count(17), 16 * 99);
        Check.sentence("all TOLLS of REACHED NODES, together");
        Check.due("tolls of reached ones alone", of("lay 0 1;toll 2 50").count(17), 2);
    }

    // ---- how many must be shut

    private static void hard() {
        Check.sentence("HARD of a NODE: the fewest ARCS to be SHUT so that it is not REACHED (99 of ROOT)");
        due(of("net 4;lay 0 1,0 1,0 1,1 2,2 2,2 2,1 0"), 12, 99, 3, 1, 0);
        due(of("net 4;lay 0 1,0 1,0 1,1 2,2 2,2 2,1 0;shut 1"), 12, 99, 2, 1, 0);
        due(of("net 4;root 1;lay 1 0,0 1"), 12, 1, 99, 0, 0);
        Check.due("of sixty arcs", of("lay 0 7" + ",0 7".repeat(59)).node(7, 12), 60);
        Check.due("of thirty by way of one", of("lay 0 3" + ",0 3".repeat(29) + ",3 7".repeat(30)).node(7, 12), 30);
        // the way first found is the wrong one: it must be gone back
        due(of("lay 0 1,0 2,1 3,1 4,2 3,3 5,4 5"), 12, 99, 1, 1, 2, 1, 2);
    }

    private static void wall() {
        Check.sentence("WALL of a NODE: the fewest other NODES, ROOT aside, whose ARCS are to be SHUT all so that it is "
                + "not REACHED (NONE of ROOT, and if an OPEN ARC goes to it from ROOT)");
        due(of("net 5;lay 0 1,0 2,1 3,2 3,3 0,4 4"), 13, -1, -1, -1, 2, 0);
        due(of("net 5;lay 0 1,0 2,1 3,2 3,0 3"), 13, -1, -1, -1, -1, 0);
        due(of("net 5;lay 0 1,0 2,1 3,2 3,0 3;shut 4"), 13, -1, -1, -1, 2, 0);
        due(of("net 5;lay 0 1,0 2,1 3,2 3,0 3;shut 4,2"), 13, -1, -1, -1, 1, 0);
        due(of("net 5;lay 0 1,0 1,1 3,1 3,1 3,3 4,3 4"), 13, -1, -1, 0, 1, 1);
        due(of("net 3;root 2;lay 2 1,1 0,0 0,0 2"), 13, 1, -1, -1);
        // by way of 3 two ways lead in and two lead out
        due(of("lay 0 1,0 2,1 3,2 3,3 4,3 5,4 6,5 6"), 13, -1, -1, -1, 2, 1, 1, 1, 0);
        due(of("root 6;lay 6 1,6 2,1 0,2 0,0 4,0 5,4 3,5 3"), 13, 2, -1, -1, 1, 1, 1, -1, 0);
        GateLifter wide = of("net 16;lay 0 1,0 2,0 3,0 4,0 5,0 6,0 7,0 8,0 9,0 10,0 11,0 12,0 13,0 14"
                + ",1 15,2 15,3 15,4 15,5 15,6 15,7 15,8 15,9 15,10 15,11 15,12 15,13 15,14 15");
        Check.due("fourteen", wide.node(15, 13), 14);
        Check.due("hard of it", wide.node(15, 12), 14);
        Check.due("wall of a row", of(ROW).node(0, 13), 1);
    }

    // ---- ways out

    private static void outGates() {
        Check.sentence("OUT GATES of a REACHED NODE from which a WAY goes to EXIT: all other NODES on each such WAY; "
                + "its OUT KEEPER: of these the one that comes first on each such WAY ... (NONE)");
        GateLifter x = of("net 7;exit 3;lay 0 1,0 2,1 4,2 4,4 3,3 5,6 3");
        due(x, 11, 24, 24, 24, 0, 8, 0, 0);
        due(x, 10, 4, 4, 4, -1, 3, -1, -1);
        Check.due("exit to 5", x.tell(5, true), 3);
        due(x, 11, 56, 56, 56, 32, 40, 0, 0);
        due(x, 10, 4, 4, 4, 5, 3, -1, -1);
        // 6 is not reached: no way goes to it
        x.tell(6, true);
        due(x, 11, 0, 0, 0, 0, 0, 0, 0);
        due(x, 10, -1, -1, -1, -1, -1, -1, -1);
        // numbers do not tell who comes first
        GateLifter y = of("root 4;exit 2;lay 4 3,3 0,0 1,1 2");
        due(y, 10, 1, 2, -1, 0, 3);
        GateLifter row = of(ROW);
        Check.due("fifteen out gates", row.node(15, 11), ALL - 0x8000);
        Check.due("none of the exit", row.node(0, 11), 0);
    }

    private static void controls() {
        Check.sentence("A NODE CONTROLS another one (or itself), if an OPEN ARC goes from it to a NODE that is this one, "
                + "or has it as an OUT GATE, and it is no OUT GATE of the first; all REACHED, with WAYS to EXIT");
        due(of("net 4;lay 0 1,0 2,1 3,2 3"), 17, 6, 0, 0, 0);
        // by its own arc 1 controls itself
        due(of("net 3;lay 0 1,1 1,1 2"), 17, 0, 2, 0);
        due(of("net 4;lay 0 1,1 2,2 1,2 3"), 17, 0, 0, 6, 0);
        // from 2 no way goes to the exit
        due(of("net 3;exit 1;lay 0 1,0 2,2 2"), 17, 0, 0, 0);
        // the exit controls who lies behind it and leads back
        due(of("net 3;exit 1;lay 0 1,1 2,2 1"), 17, 0, 6, 0);
        due(of("net 3;exit 1;lay 0 1,1 2,2 1;shut 0"), 17, 0, 0, 0);
        due(of("net 3;exit 0;lay 0 0,1 0"), 17, 1, 0, 0);
        // 3 is not reached
        due(of("net 4;exit 2;lay 0 1,0 2,1 2,3 1,3 2"), 17, 2, 0, 0, 0);
    }

    private static void spans() {
        Check.sentence("SPANS: pairs of NODES of which the one KEEPS the other one, and this is an OUT GATE of the first");
        Check.due("a row of three", of("net 3;lay 0 1,1 2").count(15), 3);
        Check.due("a diamond", of("net 4;lay 0 1,0 2,1 3,2 3").count(15), 1);
        Check.due("no way to the exit", of("net 4;lay 0 1,1 2").count(15), 0);
        Check.due("a row of sixteen", of(ROW).count(15), 120);
        Check.due("root and exit are one", of("net 3;exit 0;lay 0 1,1 2,2 0").count(15), 1);
    }

    private static void ring() {
        Check.sentence("RING of a NODE: NODES to which WAYS go from it and back (itself, too), if it is REACHED ... (0)");
        GateLifter x = of("lay 0 1,1 2,2 1,2 3,3 3,5 6,6 5");
        due(x, 18, 1, 6, 6, 8, 0, 0, 0, 0);
        Check.sentence("unlike RINGS of REACHED NODES");
        Check.due("count(16)", x.count(16), 3);
        Check.due("one alone", of("").count(16), 1);
        Check.due("sixteen", of(ROW).count(16), 16);
        Check.due("all in one", of(ROW + ",0 15").count(16), 1);
        Check.due("ring of all", of(ROW + ",0 15").node(7, 18), ALL);
        // a way back from who is reached to who is not is none
        due(of("net 3;lay 1 0,0 2"), 18, 1, 0, 4);
    }

    // ---- who would be lost

    private static void bridges() {
        Check.sentence("BRIDGE: an OPEN ARC from a REACHED NODE without which its end would not be REACHED");
        GateLifter x = of("net 6;lay 0 1,0 1,1 2,2 0,2 2,4 5,2 3,0 3;shut 7");
        int[] bridges = {0, 0, 1, 0, 0, 0, 1, 0};
        for (int i = 0; i < bridges.length; i++) {
            Check.due("bridge " + i, x.arc(i, 4), bridges[i]);
        }
        Check.due("bridges", x.count(9), 2);
        x.open(7);
        Check.due("bridges with two ways to 3", x.count(9), 1);
        x.shut(1);
        Check.due("bridges with one way to 1", x.count(9), 2);
        Check.due("fifteen", of(ROW).count(9), 15);
    }

    private static void worst() {
        Check.sentence("WORST: the OPEN ARC by whose SHUT the most NODES would be LOST, of several the least; none, if that is 0");
        GateLifter x = of("net 6;lay 3 4,0 2,0 1,1 5,2 3;shut 3");
        Check.due("worst(0)", x.worst(0), 1);
        Check.due("worst(1)", x.worst(1), 3);
        x.open(3);
        x.shut(0);
        Check.due("worst(0) of several", x.worst(0), 1);
        Check.due("worst(1) of several", x.worst(1), 2);
        GateLifter none = of("net 3;lay 0 0,0 1,0 1,1 0,2 2");
        Check.due("worst(0) of none", none.worst(0), -1);
        Check.due("worst(1) of none", none.worst(1), 0);
        Check.due("worst(0) without arcs", of("").worst(0), -1);
        Check.due("worst(1) of all", of(ROW).worst(1), 15);
    }

    private static void sealed() {
        Check.sentence("SEALED by some NODES: REACHED ones that would not be, if all ARCS of these were SHUT (these aside)"
                + " ... IllegalArgumentException: there is a NODE in the set that there is not");
        GateLifter x = of("net 5;lay 0 1,0 2,1 3,2 3,4 3");
        int[][] dues = {{0, 0}, {1, 14}, {2, 0}, {4, 0}, {6, 8}, {16, 0}, {8, 0}, {31, 0}, {3, 12}, {22, 8}, {9, 6}};
        for (int[] due : dues) {
            Check.due("seal(" + due[0] + ")", x.seal(due[0]), due[1]);
        }
        for (int set : new int[] {32, 33, 63, 1 << 16, 1 << 30, MIN, MAX, -1}) {
            Check.dueThrow("seal(" + set + ")", NO_ARGUMENT, () -> x.seal(set));
        }
        GateLifter row = of(ROW);
        Check.due("seal of all", row.seal(ALL), 0);
        Check.due("seal of the root", row.seal(0x8000), 0x7fff);
        Check.dueThrow("seal of 16", NO_ARGUMENT, () -> row.seal(ALL + 1));
        Check.dueThrow("seal of 16 and 0", NO_ARGUMENT, () -> row.seal(ALL + 2));
        GateLifter two = of("net 2;lay 0 1");
        Check.due("seal(3) of two", two.seal(3), 0);
        Check.dueThrow("seal(4) of two", NO_ARGUMENT, () -> two.seal(4));
    }

    private static void without() {
        Check.sentence("NODES that would not be REACHED without one (all its ARCS being SHUT; itself aside), as bits");
        GateLifter x = of("net 5;lay 0 1,1 2,1 3,2 3,4 3");
        int[] want = {14, 12, 0, 0, 0};
        for (int v = 0; v < want.length; v++) {
            Check.due("without(" + v + ")", x.without(v), want[v]);
        }
        Check.due("without the root of sixteen", of(ROW).without(15), 0x7fff);
        Check.due("without the last", of(ROW).without(0), 0);
    }

    private static void via() {
        Check.sentence("VIA of two NODES: other NODES on each WAY from the one to the other one; none, if no WAY goes");
        GateLifter x = of("net 6;lay 0 1,0 2,1 3,2 3,4 0,4 5");
        int[][] dues = {{0, 0, 0}, {0, 1, 0}, {0, 3, 0}, {4, 3, 1}, {4, 1, 1}, {4, 5, 0}, {4, 4, 0}, {5, 5, 0},
            {5, 4, -1}, {3, 0, -1}, {0, 4, -1}, {0, 5, -1}};
        for (int[] due : dues) {
            Check.due("via(" + due[0] + ", " + due[1] + ")", x.via(due[0], due[1]), due[2]);
        }
        Check.due("fourteen between", of(ROW).via(15, 0), 0x7ffe);
        Check.due("none back", of(ROW).via(0, 15), -1);
        Check.due("by a circle", of("lay 0 1,1 2,2 3,3 0").via(2, 1), 9);
    }

    private static void pass() {
        Check.sentence("PASS of a REACHED NODE: ARCS, each of which is on each WAY from ROOT to it, as they come on a WAY "
                + "... how many for k NONE; NONE without, and if it is not REACHED");
        GateLifter x = of("lay 4 5,3 4,1 3,2 3,0 1,0 2,6 6,4 0,5 5");
        int[][] dues = {{5, -1, 2}, {5, 0, 1}, {5, 1, 0}, {5, 2, -1}, {5, -2, -1}, {5, MIN, -1}, {5, MAX, -1},
            {3, -1, 0}, {3, 0, -1}, {1, -1, 1}, {1, 0, 4}, {0, -1, 0}, {0, 0, -1}, {6, -1, -1}, {6, 0, -1}, {7, -1, -1}};
        for (int[] due : dues) {
            Check.due("pass(" + due[0] + ", " + due[1] + ")", x.pass(due[0], due[1]), due[2]);
        }
        GateLifter row = of(ROW);
        Check.due("fifteen", row.pass(0, -1), 15);
        Check.due("the last", row.pass(0, 14), 14);
        Check.due("behind the last", row.pass(0, 15), -1);
        // an arc that is shut now is none of them
        GateLifter alike = of("lay 0 1,0 1;shut 0");
        Check.due("the one that is open", alike.pass(1, 0), 1);
        alike.open(0);
        Check.due("neither of two", alike.pass(1, -1), 0);
    }

    private static void tied() {
        Check.sentence("TIED to a REACHED NODE: REACHED ones that no one ARC, SHUT, would take from it or it from them "
                + "alone ... (itself, too; 0, if it is not REACHED)");
        due(of("lay 0 1,0 1,0 2,2 3,2 3,4 4"), 21, 3, 3, 12, 12, 0);
        due(of(""), 21, 1, 0);
        due(of("lay 0 1,1 0"), 21, 1, 2);
        due(of("lay 0 1,0 2,1 2"), 21, 5, 2, 5);
        Check.due("one of a row", of(ROW).node(7, 21), 128);
        Check.due("all", of("net 3;lay 0 1,0 2,1 2,2 1").node(1, 21), 7);
    }

    // ---- what would be

    private static void dueFall(GateLifter x, int arc, int lost, int moved, int lift) {
        Check.due("fall(" + arc + ", 0)", x.fall(arc, 0), lost);
        Check.due("fall(" + arc + ", 1)", x.fall(arc, 1), moved);
        Check.due("fall(" + arc + ", 2)", x.fall(arc, 2), lift);
    }

    private static void fall() {
        Check.sentence("FALL of an OPEN ARC: were it SHUT now: LOST, MOVED, LIFT ... IllegalStateException: it is SHUT");
        GateLifter x = of("net 6;lay 0 1,0 1,1 2,0 2,2 3,3 0,3 3,4 5,0 0");
        dueFall(x, 0, 0, 0, 0);
        dueFall(x, 2, 0, 0, 0);
        dueFall(x, 3, 0, 4, -2);
        dueFall(x, 4, 8, 0, 0);
        dueFall(x, 5, 0, 0, 0);
        dueFall(x, 6, 0, 0, 0);
        dueFall(x, 7, 0, 0, 0);
        dueFall(x, 8, 0, 0, 0);
        x.shut(0);
        dueFall(x, 1, 2, 0, 0);
        x.lay(0, 1);
        x.shut(2);
        dueFall(x, 3, 12, 0, 0);
        for (int what = 0; what < 3; what++) {
            int asked = what;
            Check.dueThrow("fall(2, " + what + ")", NO_STATE, () -> x.fall(2, asked));
        }
        for (int arc : new int[] {-1, 10, 59, 60, 64, MIN, MAX}) {
            Check.dueThrow("fall(" + arc + ", 7)", NO_INDEX, () -> x.fall(arc, 7));
        }
        for (int what : new int[] {-1, 3, MIN, MAX}) {
            Check.dueThrow("fall(2, " + what + ")", NO_WHAT, () -> x.fall(2, what));
            Check.dueThrow("fall(3, " + what + ")", NO_WHAT, () -> x.fall(3, what));
        }
        // lost by one arc, and lifted at once none: the deeper ones sink, too
        dueFall(of("lay 0 1,1 2,0 2,2 3,3 4"), 2, 0, 4, -3);
    }

    private static void spare() {
        Check.sentence("SPARE ARCS: OPEN ones by whose SHUT nobody is LOST or MOVED");
        Check.due("none", of("").count(18), 0);
        Check.due("two alike", of("lay 0 1,0 1").count(18), 2);
        Check.due("one of them shut", of("lay 0 1,0 1;shut 0").count(18), 0);
        Check.due("one that is gone round", of("lay 0 1,1 2,0 2").count(18), 1);
        Check.due("own arcs, back arcs", of("lay 0 0,0 1,1 0,1 1").count(18), 3);
        Check.due("of who is not reached", of("lay 3 4,4 0,4 4").count(18), 3);
        // by neither of 1 and 2 alone 3 is kept
        Check.due("a diamond", of("lay 0 1,0 2,1 3,2 3").count(18), 0);
        Check.due("three ways", of("lay 0 1,0 2,0 4,1 3,2 3,4 3").count(18), 3);
        Check.due("sixty", of("lay 0 1" + ",0 1".repeat(59)).count(18), 60);
    }

    private static void dueWould(GateLifter x, int from, int to, int gained, int moved, int lift) {
        String call = "would(" + from + ", " + to + ", ";
        Check.due(call + "0)", x.would(from, to, 0), gained);
        Check.due(call + "1)", x.would(from, to, 1), moved);
        Check.due(call + "2)", x.would(from, to, 2), lift);
    }

    private static void would() {
        Check.sentence("WOULD of two NODES: were an ARC LAID from the one to the other one now: GAINED, MOVED, LIFT");
        GateLifter x = of("lay 0 1,1 2,2 3,4 5,5 3,6 6");
        dueWould(x, 0, 1, 0, 0, 0);
        dueWould(x, 0, 2, 0, 4, 2);
        dueWould(x, 0, 3, 0, 8, 2);
        dueWould(x, 1, 3, 0, 8, 1);
        dueWould(x, 0, 4, 48, 8, 2);
        dueWould(x, 1, 4, 48, 8, 1);
        dueWould(x, 2, 4, 48, 0, 0);
        dueWould(x, 0, 6, 64, 0, 0);
        dueWould(x, 7, 0, 0, 0, 0);
        dueWould(x, 4, 6, 0, 0, 0);
        dueWould(x, 0, 0, 0, 0, 0);
        dueWould(x, 3, 0, 0, 0, 0);
        dueWould(x, 7, 7, 0, 0, 0);
        String before = State.of(x);
        x.would(0, 4, 0);
        Check.due("nothing is laid", State.of(x), before);
        for (int node : new int[] {-1, 8, 15, 16, 32, MIN, MAX}) {
            Check.dueThrow("would(" + node + ", 0, 5)", NO_INDEX, () -> x.would(node, 0, 5));
            Check.dueThrow("would(0, " + node + ", 5)", NO_INDEX, () -> x.would(0, node, 5));
        }
        for (int what : new int[] {-1, 3, MIN, MAX}) {
            Check.dueThrow("would(0, 0, " + what + ")", NO_WHAT, () -> x.would(0, 0, what));
        }
    }

    private static void dueBest(GateLifter x, int from, int to, int lift) {
        Check.due("best(0)", x.best(0), from);
        Check.due("best(1)", x.best(1), to);
        Check.due("best(2)", x.best(2), lift);
    }

    private static void best() {
        Check.sentence("BEST: of all two NODES those with the greatest LIFT, of several the first (by the one, then by the "
                + "other); none, if that is 0");
        dueBest(of(""), -1, -1, 0);
        dueBest(of("lay 0 1,0 2,1 0,3 4"), -1, -1, 0);
        dueBest(of("lay 0 1,1 2,1 3"), 0, 2, 1);
        // 0 lies beside the root 5, and lifts as much
        dueBest(of("root 5;lay 5 0,5 3,3 4,4 6,4 2"), 0, 4, 3);
        dueBest(of("lay 0 1,1 2,2 3,3 4"), 0, 3, 4);
        // by 4, and by way of 7, that is not reached, as much is lifted; 3 is the least one
        dueBest(of("lay 0 1,1 2,2 3,3 4,4 5,7 4"), 0, 3, 6);
        dueBest(of("net 16;lay 0 1,1 14,14 15,3 15"), 0, 3, 2);
        // by 0 as a gate, and to 0
        dueBest(of("root 3;lay 3 0,0 1,1 2"), 3, 1, 2);
        dueBest(of("root 3;lay 3 1,1 0,0 2"), 3, 0, 2);
        // seven by eight, or eight by seven
        dueBest(of(ROW), 15, 6, 56);
        Check.due("nothing is laid", of(ROW).count(3), 15);
        GateLifter x = of(ROW);
        for (int what : new int[] {-1, 3, MIN, MAX}) {
            Check.dueThrow("best(" + what + ")", NO_WHAT, () -> x.best(what));
            Check.dueThrow("best(" + what + ") of none", NO_WHAT, () -> of("").best(what));
        }
    }

    // ---- arcs

    private static void kind() {
        Check.sentence("KIND of an ARC: 0 SHUT, 1 from a NODE that is not REACHED, 2 BACK, 3 from the KEEPER of its end, 4 else");
        GateLifter x = of("net 7;lay 0 1,0 1,1 2,0 2,2 0,1 1,5 5,5 1,2 3,1 3,3 1,3 4,2 1,6 6,0 0,1 0;shut 13,14,15");
        int[] kinds = {3, 3, 4, 3, 2, 2, 1, 1, 4, 4, 4, 3, 4, 0, 0, 0};
        for (int i = 0; i < kinds.length; i++) {
            Check.due("kind of " + i, x.arc(i, 3), kinds[i]);
        }
        x.tell(5, false);
        x.lay(1, 0);
        int[] from5 = {2, 2, 3, 4, 4, 2, 2, 3, 4, 3, 2, 3, 2, 0, 0, 0, 3};
        for (int i = 0; i < from5.length; i++) {
            Check.due("kind of " + i + " from 5", x.arc(i, 3), from5[i]);
        }
    }

    private static void arcs() {
        Check.sentence("Of an ARC what 0 from, 1 to, 2 1 if OPEN");
        GateLifter x = of("net 16;lay 0 15,15 0,7 7" + ",0 1".repeat(57) + ";shut 1,59");
        int[][] dues = {{0, 0, 15, 1}, {1, 15, 0, 0}, {2, 7, 7, 1}, {58, 0, 1, 1}, {59, 0, 1, 0}};
        for (int[] due : dues) {
            for (int what = 0; what < 3; what++) {
                Check.due("arc(" + due[0] + ", " + what + ")", x.arc(due[0], what), due[what + 1]);
            }
        }
        for (int arc : new int[] {-1, 60, 61, 64, 124, MIN, MAX}) {
            Check.dueThrow("arc(" + arc + ", 0)", NO_INDEX, () -> x.arc(arc, 0));
            Check.dueThrow("arc(" + arc + ", 9)", NO_INDEX, () -> x.arc(arc, 9));
        }
        for (int what : new int[] {-1, 5, MIN, MAX}) {
            Check.dueThrow("arc(59, " + what + ")", NO_WHAT, () -> x.arc(59, what));
        }
        x.net(16);
        Check.dueThrow("arc(0, 0) behind net", NO_INDEX, () -> x.arc(0, 0));
    }

    // ---- what is written, counts

    private static void dueText(GateLifter x, int node, String want) {
        Check.due("text(" + node + ")", x.text(node), want.length());
        for (int k = 0; k < want.length(); k++) {
            Check.due("octet(" + k + ")", x.octet(k), want.charAt(k));
        }
        for (int k : new int[] {-1, want.length(), want.length() + 1, 64, 400, MIN, MAX}) {
            Check.due("octet(" + k + ")", x.octet(k), -1);
        }
    }

    private static void text() {
        Check.sentence("GATES of a REACHED NODE are written, from ROOT on, itself last, one blank between: how many bytes; "
                + "0 of one that is not REACHED");
        dueText(of(""), 0, "0");
        dueText(of(""), 1, "");
        dueText(of("net 16;root 10"), 10, "10");
        dueText(of("net 16;root 10;lay 10 9,9 0,0 15"), 15, "10 9 0 15");
        GateLifter row = of(ROW);
        dueText(row, 0, "15 14 13 12 11 10 9 8 7 6 5 4 3 2 1 0");
        dueText(row, 15, "15");
        Check.sentence("The k-th byte that was written last; NONE without");
        Check.due("nothing yet", of(ROW).octet(0), -1);
        row.text(14);
        row.shut(0);
        row.net(3);
        Check.due("octet(4) stays", row.octet(4), '4');
        Check.dueThrow("text(3)", NO_INDEX, () -> row.text(3));
        Check.due("octet(4) behind a throw", row.octet(4), '4');
        Check.due("text(2)", row.text(2), 0);
        Check.due("octet(0) of none", row.octet(0), -1);
    }

    private static void counts() {
        Check.sentence("NONE for another what");
        for (int what : new int[] {-1, 19, 20, MIN, MAX}) {
            Check.due("count(" + what + ")", of(ROW).count(what), -1);
        }
        Check.sentence("the greatest DEPTH ... all DEPTHS, together ... REACHED NODES that KEEP none, as bits");
        GateLifter row = of(ROW);
        int[] counts = {16, 15, 0, 15, 15, ALL, 15, 0, 0, 15, 1, 120, 1, 0, 0, 120, 16, 16, 0};
        for (int what = 0; what < counts.length; what++) {
            Check.due("count(" + what + ") of a row", row.count(what), counts[what]);
        }
        GateLifter x = of("lay 1 2,2 3");
        Check.due("the greatest depth", x.count(6), 0);
        Check.due("all depths", x.count(11), 0);
        Check.due("who keep none", x.count(12), 1);
        x.tell(1, false);
        Check.due("who keep none", x.count(12), 8);
    }

    // ---- wrong inputs

    private static void noSuchNode() {
        Check.sentence("IndexOutOfBoundsException: there is no such NODE, ARC. ... Of several exceptions the one told first");
        for (int nodes : new int[] {2, 8, 16}) {
            GateLifter x = of("lay 0 1");
            x.net(nodes);
            for (int node : new int[] {-1, -2, nodes, nodes + 1, 16, 31, 32, 33, MIN, MAX}) {
                Check.dueThrow("node(" + node + ", 0)", NO_INDEX, () -> x.node(node, 0));
                Check.dueThrow("node(" + node + ", 22)", NO_INDEX, () -> x.node(node, 22));
                Check.dueThrow("keeps(" + node + ", 0)", NO_INDEX, () -> x.keeps(node, 0) ? 1 : 0);
                Check.dueThrow("keeps(0, " + node + ")", NO_INDEX, () -> x.keeps(0, node) ? 1 : 0);
                Check.dueThrow("common(" + node + ", 1)", NO_INDEX, () -> x.common(node, 1));
                Check.dueThrow("common(1, " + node + ")", NO_INDEX, () -> x.common(1, node));
                Check.dueThrow("without(" + node + ")", NO_INDEX, () -> x.without(node));
                Check.dueThrow("chain(" + node + ", 0)", NO_INDEX, () -> x.chain(node, 0));
                Check.dueThrow("via(" + node + ", 0)", NO_INDEX, () -> x.via(node, 0));
                Check.dueThrow("via(0, " + node + ")", NO_INDEX, () -> x.via(0, node));
                Check.dueThrow("pass(" + node + ", -1)", NO_INDEX, () -> x.pass(node, -1));
                Check.dueThrow("would(" + node + ", 0, 0)", NO_INDEX, () -> x.would(node, 0, 0));
                Check.dueThrow("text(" + node + ")", NO_INDEX, () -> x.text(node));
            }
        }
    }

    private static void noSuchWhat() {
        Check.sentence("NoSuchElementException: another what");
        GateLifter x = of("lay 0 1");
        for (int what : new int[] {-1, MIN, MAX}) {
            Check.dueThrow("node(0, " + what + ")", NO_WHAT, () -> x.node(0, what));
            Check.dueThrow("arc(0, " + what + ")", NO_WHAT, () -> x.arc(0, what));
            Check.dueThrow("worst(" + what + ")", NO_WHAT, () -> x.worst(what));
            Check.dueThrow("latest(" + what + ")", NO_WHAT, () -> x.latest(what));
        }
        Check.dueThrow("node(7, 22)", NO_WHAT, () -> x.node(7, 22));
        Check.dueThrow("arc(0, 5)", NO_WHAT, () -> x.arc(0, 5));
        Check.dueThrow("worst(2)", NO_WHAT, () -> x.worst(2));
        Check.dueThrow("latest(4)", NO_WHAT, () -> x.latest(4));
    }

    private static void noLeastNet() {
        Check.sentence("NODES 2 to 16");
        GateLifter x = of("net 2;lay 0 1,1 0,1 1");
        int[][] nodes = {{1, -1, 0, 0, 2, 2, 1, 3, 1, 0, 1, 2, 99, -1, 1, 1, 1, 0, 3, 0, -1, 1},
            {1, 0, 1, 1, 0, 0, 3, 2, 2, 1, -1, 0, 1, -1, 1, 2, 2, 3, 3, 1, 0, 2}};
        for (int v = 0; v < 2; v++) {
            for (int what = 0; what < 22; what++) {
                Check.due("node(" + v + ", " + what + ")", x.node(v, what), nodes[v][what]);
            }
        }
        int[] counts = {2, 0, 1, 3, 3, 3, 1, 3, 2, 1, 1, 1, 2, 2, 0, 1, 1, 2, 2};
        for (int what = 0; what < counts.length; what++) {
            Check.due("count(" + what + ")", x.count(what), counts[what]);
        }
    }
}
