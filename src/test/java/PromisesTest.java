import java.util.NoSuchElementException;

/** Each promise with ordinary inputs, the edges that the document names, and wrong inputs; all worked out by hand. */
public final class PromisesTest {
    private static final Class<IndexOutOfBoundsException> NO_INDEX = IndexOutOfBoundsException.class;
    private static final Class<NoSuchElementException> NO_WHAT = NoSuchElementException.class;
    private static final Class<IllegalArgumentException> NO_ARGUMENT = IllegalArgumentException.class;
    private static final Class<IllegalStateException> NO_STATE = IllegalStateException.class;

    /** Two ways from 1 to 4, one back from 4 to 1, 5 behind 4 and with an arc to itself; 6 and 7 are not reached. */
    private static final String SAMPLE =
            "lay 0 1, 1 2, 1 3, 2 4, 3 4, 4 1, 4 5, 5 5, 6 7; exit 5; toll 2 5; toll 3 2; toll 5 0";

    private PromisesTest() {
    }

    public static void main(String[] args) {
        newObject();
        feed();
        end();
        acts();
        actsInTexts();
        wrongTexts();
        whyOfTexts();
        why();
        net();
        tell();
        lay();
        shutAndOpen();
        toll();
        undo();
        latest();
        gatesOfNodes();
        waysOfNodes();
        hardAndWall();
        innerAndOuter();
        keepsAndCommon();
        walkAndRow();
        arc();
        withoutAndSeal();
        chainAndLevel();
        via();
        pass();
        fall();
        worst();
        would();
        best();
        textAndOctet();
        image();
        count();
        Check.finish();
    }

    private static GateLifter of(String text) {
        return Texts.of(text);
    }

    private static void read(GateLifter x, String text) {
        Check.due("acts '" + text + "'", Texts.tell(x, text), -1);
    }

    private static int acts(GateLifter x) {
        return Texts.acts(x);
    }

    private static void dueNodes(GateLifter x, int what, int... want) {
        for (int v = 0; v < want.length; v++) {
            Check.due("node(" + v + ", " + what + ")", x.node(v, what), want[v]);
        }
    }

    /** Each question as the first one behind the acts. */
    private static void dueFirst(String text, int what, int... want) {
        for (int v = 0; v < want.length; v++) {
            Check.due("first node(" + v + ", " + what + ")", of(text).node(v, what), want[v]);
        }
    }

    // ---- promises 1 to 5

    private static void newObject() {
        GateLifter x = new GateLifter();
        int[] counts = {8, 0, 7, 0, 0, 1, 0, 0, 0, 0, 1, 0, 1, 0, 0, 0, 1, 1, 0};
        for (int what = 0; what < counts.length; what++) {
            Check.due("new count(" + what + ")", x.count(what), counts[what]);
        }
        Check.due("NONE", GateLifter.NONE, -1);
        Check.due("new fault", x.fault(), -1);
        Check.due("new why", x.why(), 0);
        Check.due("new octet", x.octet(0), -1);
        dueNodes(x, 14, 1, 1, 1, 1, 1, 1, 1, 1);
    }

    private static void feed() {
        GateLifter x = new GateLifter();
        for (int i = 1; i <= 20; i++) {
            Check.due("feed " + i, x.feed(-1, 0, 0, 0, 0), 20 * i);
        }
        Check.due("feed beyond 400", x.feed(0, 0, 0, 0, 0), -1);
        Check.due("end(400) behind it", x.end(400), true);
        Check.due("end(381)", x.end(381), true);
        Check.due("feed to 401", x.feed(0, 0, 0, 0, 0), -1);
        Check.due("end(380)", x.end(380), true);
        Check.due("feed to 400", x.feed(0, 0, 0, 0, 0), 400);
        // "exit 1;exit 2;exit 3": the highest byte of each number comes first
        x.end(0);
        Check.due("feed in order", x.feed(0x65786974, 0x20313b65, 0x78697420, 0x323b6578, 0x69742033), 20);
        Check.due("acts in order", acts(x), 3);
        Check.due("exit", x.count(2), 3);
    }

    private static void end() {
        GateLifter x = new GateLifter();
        Check.due("end(0) of none", x.end(0), true);
        Check.due("end(1) of none", x.end(1), false);
        Check.due("end(-1)", x.end(-1), false);
        x.feed(0x65786974, 0x20332020, 0, 0, 0);
        Check.due("end(21)", x.end(21), false);
        Check.due("end(min)", x.end(Integer.MIN_VALUE), false);
        Check.due("end(max)", x.end(Integer.MAX_VALUE), false);
        Check.due("end(20)", x.end(20), true);
        Check.due("end(6)", x.end(6), true);
        Check.due("end(7) behind", x.end(7), false);
        Check.due("acts of six bytes", acts(x), 1);
        Check.due("exit", x.count(2), 3);
        Check.due("the tape is used up", x.end(1), false);
    }

    private static void acts() {
        GateLifter x = new GateLifter();
        Check.due("acts of no bytes", acts(x), 0);
        Check.due("fault", x.fault(), -1);
        Texts.put(x, "  ");
        Check.due("acts of blanks", acts(x), 0);
        x.lay(0, 1);
        x.lay(1, 2);
        read(x, "root 1;");
        Check.due("nothing of a wrong text stays", x.count(1), 0);
        Check.due("what is remembered stays by a wrong text", x.count(14), 2);
        Check.due("latest stays by a wrong text", x.latest(0), 4);
        Check.due("a wrong text uses the tape up", x.end(1), false);
        Check.due("nothing of it is left over", acts(x), 0);
        Check.due("a right text forgets", x.count(14), 0);
        Check.due("a right text has no latest", x.latest(0), 0);
        Check.dueThrow("acts", NO_ARGUMENT, () -> {
            Texts.put(x, "x");
            return x.acts();
        });
        Check.due("fault", x.fault(), 0);
    }

    private static void actsInTexts() {
        GateLifter x = new GateLifter();
        Texts.put(x, "  net 05 ;lay0 1,1   2 ,  2 3;shut 1,0;open1;root02;exit 2;toll 4 00;toll4 99  ");
        Check.due("acts", acts(x), 8);
        Check.due("fault", x.fault(), -1);
        int[] counts = {5, 2, 2, 3, 2, 12};
        for (int what = 0; what < counts.length; what++) {
            Check.due("count(" + what + ")", x.count(what), counts[what]);
        }
        Check.due("arc 0 is shut", x.arc(0, 2), 0);
        Check.due("toll", x.node(4, 14), 99);
        Texts.put(x, "lay 0 1;net 2;lay 1 0");
        Check.due("acts with a net among them", acts(x), 3);
        Check.due("arcs", x.count(3), 1);
        Check.due("tolls are as at first", x.node(1, 14), 1);
        GateLifter full = new GateLifter();
        StringBuilder lays = new StringBuilder("lay 0 1");
        for (int i = 1; i < 60; i++) {
            lays.append(",0 1");
        }
        Texts.put(full, lays.toString());
        Check.due("sixty arcs by one act", acts(full), 1);
        Check.due("hard of sixty", full.node(1, 12), 60);
        Texts.put(full, "lay 0 1");
        Check.due("one arc more", acts(full), -1);
        Check.due("why", full.why(), 2);
        Texts.put(full, "shut 59,58;open 58");
        Check.due("shut the last", acts(full), 2);
        Check.due("open ones", full.count(4), 59);
    }

    private static void dueFault(String text, int fault) {
        GateLifter x = new GateLifter();
        Texts.put(x, text);
        Check.due("acts '" + text + "'", acts(x), -1);
        Check.due("fault of '" + text + "'", x.fault(), fault);
        Check.due("nodes behind '" + text + "'", x.count(0), 8);
        Check.due("arcs behind '" + text + "'", x.count(3), 0);
    }

    private static void wrongTexts() {
        String fourteen = "exit 6;exit 7;".repeat(7);
        String[] texts = {"net 1", "net 17", "net  016", "net", "net ", "netx 4", "Net 4", "net X", "4", ";",
            "root 16", "root 8", "root 0", "exit 99", " exit 7", "lay 0 16", "lay 0 1,", "lay 0 1,;", "lay 0 1 2",
            "lay 0 8", "lay 0 8,1 x", "shut 60", "shut 0", "open 0 1", "lay 0 1;shut 0,0", "lay 0 1;open 0",
            "toll 0 100", "toll 0 1", "toll 0 2,1 3", "root 1,2", "lay 0 1; ", "lay 0 1;;", "lay 0 1\t",
            "lay 0 1;shutt 0", "lay 0 1 net 3", "lay 0\u00e91", fourteen, fourteen + " ", fourteen + "x",
            fourteen + " exit 6", fourteen + ";", "lay 0 100000000000", "net 4;root 4", "net 3 ; lay 0 2,0 3",
            "layz 0 1", "laya 0 1", "lay`0 1", "lay{0 1", "lay 0/1", "lay 0:1", "root 15", "exit 15", "exit 16",
            "lay 15 0", "lay 16 0", "lay 0 15", "toll 15 0", "toll 16 0", "toll 0 99 9", "open 59", "open 60",
            "shut 59"};
        int[] faults = {4, 4, 5, 3, 4, 0, 0, 4, 0, 0, 5, 0, 0, 5, 1, 6, 8, 8, 8, 0, 10, 5, 0, 0, 8, 8, 7, 0, 8, 6,
            9, 8, 7, 8, 8, 5, 98, 99, 98, 99, 98, 6, 6, 8,
            0, 0, 3, 3, 5, 5, 0, 0, 5, 0, 4, 0, 0, 5, 10, 0, 5, 0};
        for (int i = 0; i < texts.length; i++) {
            dueFault(texts[i], faults[i]);
        }
        GateLifter x = new GateLifter();
        read(x, "lay 0 1 2");
        Texts.put(x, "");
        Check.due("acts of none", acts(x), 0);
        Check.due("fault of the latest text", x.fault(), -1);
    }

    // ---- promises 6 to 14

    private static void whyOfTexts() {
        GateLifter x = new GateLifter();
        read(x, "root 9");
        Check.due("why of a refused act in a text", x.why(), 1);
        read(x, "net 1");
        Check.due("why stays by a text wrong otherwise", x.why(), 1);
        Texts.put(x, " ");
        Check.due("acts of blanks", acts(x), 0);
        Check.due("why stays by a text without acts", x.why(), 1);
        Texts.put(x, "root 3");
        Check.due("acts", acts(x), 1);
        Check.due("why of a right text", x.why(), 0);
        read(x, "lay 0 1;lay 0 1;shut 0;shut 0");
        Check.due("why of the refused one", x.why(), 4);
        read(x, "shut 7");
        Check.due("why of no arc", x.why(), 3);
        x.image();
        Check.due("back", x.back(), true);
        Check.due("why stays going back", x.why(), 3);
    }

    private static void why() {
        GateLifter x = new GateLifter();
        Check.dueThrow("lay(0, 8)", NO_STATE, () -> x.lay(0, 8));
        Check.due("why of lay", x.why(), 1);
        Check.dueThrow("tell(0)", NO_STATE, () -> x.tell(0, false));
        Check.due("why of tell", x.why(), 4);
        Check.dueThrow("shut(0)", NO_STATE, () -> x.shut(0));
        Check.due("why of shut", x.why(), 3);
        Check.dueThrow("toll(0, 100)", NO_ARGUMENT, () -> x.toll(0, 100));
        Check.due("why stays where nothing is refused", x.why(), 3);
        Check.dueThrow("undo", NO_STATE, x::undo);
        Check.due("why stays by undo", x.why(), 3);
        x.lay(0, 1);
        Check.due("why of one that is done", x.why(), 0);
        Check.dueThrow("open(0)", NO_STATE, () -> x.open(0));
        Check.due("why of open", x.why(), 4);
        x.net(4);
        Check.due("why of net", x.why(), 0);
    }

    private static void net() {
        GateLifter x = of(SAMPLE);
        x.lay(1, 1);
        for (int nodes : new int[] {1, 17, 0, -1, Integer.MIN_VALUE, Integer.MAX_VALUE}) {
            Check.dueThrow("net(" + nodes + ")", NO_ARGUMENT, () -> {
                x.net(nodes);
                return 0;
            });
        }
        Check.due("arcs behind a net that cannot be", x.count(3), 10);
        Check.due("what is remembered then", x.count(14), 1);
        x.text(5);
        x.image();
        x.net(16);
        int[] counts = {16, 0, 15, 0, 0, 1};
        for (int what = 0; what < counts.length; what++) {
            Check.due("count(" + what + ") behind net", x.count(what), counts[what]);
        }
        Check.due("toll behind net", x.node(2, 14), 1);
        Check.due("nothing is remembered behind net", x.count(14), 0);
        Check.due("what was written stays", x.octet(0), '0');
        Check.due("the image stays", x.back(), true);
        Check.due("its arcs", x.count(3), 10);
        x.net(2);
        Check.due("exit of two", x.count(2), 1);
        Check.due("arcs are numbered from 0 again", x.lay(0, 1), 0);
    }

    private static void tell() {
        GateLifter x = new GateLifter();
        x.lay(0, 1);
        x.lay(1, 2);
        Check.due("tell root 1", x.tell(1, false), 0);
        Check.due("lost", x.latest(1), 1);
        Check.due("moved", x.latest(2), 2);
        Check.due("lift", x.latest(3), 2);
        Check.due("root", x.count(1), 1);
        Check.due("tell exit 1", x.tell(1, true), 7);
        Check.due("exit", x.count(2), 1);
        Check.due("nobody is lost by an exit", x.latest(1), 0);
        Check.dueThrow("tell root 1 again", NO_STATE, () -> x.tell(1, false));
        Check.dueThrow("tell exit 1 again", NO_STATE, () -> x.tell(1, true));
        Check.due("why", x.why(), 4);
        Check.dueThrow("tell root 8", NO_STATE, () -> x.tell(8, false));
        Check.dueThrow("tell exit -1", NO_STATE, () -> x.tell(-1, true));
        Check.due("why", x.why(), 1);
        Check.due("what is remembered", x.count(14), 4);
    }

    private static void lay() {
        GateLifter x = new GateLifter();
        for (int i = 0; i < 60; i++) {
            Check.due("lay " + i, x.lay(i % 8, i / 8), i);
        }
        Check.dueThrow("lay the 61st", NO_STATE, () -> x.lay(0, 0));
        Check.due("why", x.why(), 2);
        Check.dueThrow("lay where there is no node", NO_STATE, () -> x.lay(0, 8));
        Check.due("why", x.why(), 1);
        Check.dueThrow("lay(-1, 0)", NO_STATE, () -> x.lay(-1, 0));
        Check.due("arcs", x.count(3), 60);
        Check.due("from of 59", x.arc(59, 0), 3);
        Check.due("to of 59", x.arc(59, 1), 7);
    }

    private static void shutAndOpen() {
        GateLifter x = of(SAMPLE);
        Check.due("shut(6)", x.shut(6), 1);
        Check.due("shut(0)", x.shut(0), 4);
        Check.due("lost", x.latest(1), 30);
        Check.due("shut(8)", x.shut(8), 0);
        Check.due("open arcs", x.count(4), 6);
        Check.dueThrow("shut(8) again", NO_STATE, () -> x.shut(8));
        Check.due("why", x.why(), 4);
        Check.dueThrow("shut(9)", NO_STATE, () -> x.shut(9));
        Check.due("why", x.why(), 3);
        Check.due("open(6)", x.open(6), 0);
        Check.due("open(0)", x.open(0), 5);
        Check.due("gained", x.latest(0), 62);
        Check.dueThrow("open(0) again", NO_STATE, () -> x.open(0));
        Check.due("why", x.why(), 4);
        Check.dueThrow("open(-1)", NO_STATE, () -> x.open(-1));
        Check.due("why", x.why(), 3);
    }

    private static void toll() {
        GateLifter x = new GateLifter();
        Check.due("toll(3, 99)", x.toll(3, 99), 1);
        Check.due("toll(3, 0)", x.toll(3, 0), 99);
        Check.due("toll", x.node(3, 14), 0);
        Check.dueThrow("toll(3, 0) again", NO_STATE, () -> x.toll(3, 0));
        Check.due("why", x.why(), 4);
        Check.dueThrow("toll(8, 0)", NO_STATE, () -> x.toll(8, 0));
        Check.due("why", x.why(), 1);
        Check.dueThrow("toll(-1, 0)", NO_STATE, () -> x.toll(-1, 0));
        Check.dueThrow("toll(0, -1)", NO_ARGUMENT, () -> x.toll(0, -1));
        Check.dueThrow("toll(9, 100)", NO_ARGUMENT, () -> x.toll(9, 100));
    }

    private static void undo() {
        GateLifter x = new GateLifter();
        Check.dueThrow("undo of none", NO_STATE, x::undo);
        for (int i = 0; i < 10; i++) {
            x.lay(i % 8, 3);
            Check.due("what is remembered", x.count(14), Math.min(8, i + 1));
        }
        Check.dueThrow("refused", NO_STATE, () -> x.shut(10));
        for (int left = 7; left >= 0; left--) {
            Check.due("undo", x.undo(), left);
            Check.due("arcs", x.count(3), left + 2);
        }
        Check.dueThrow("undo of the ninth", NO_STATE, x::undo);
        x.toll(1, 7);
        x.tell(2, true);
        x.tell(4, false);
        x.shut(1);
        Check.due("undo shut", x.undo(), 3);
        Check.due("arc 1 is open", x.arc(1, 2), 1);
        Check.due("latest of none", x.latest(1), 0);
        Check.due("undo root", x.undo(), 2);
        Check.due("root", x.count(1), 0);
        Check.due("reached again", x.count(5), 9);
        Check.due("undo exit", x.undo(), 1);
        Check.due("exit", x.count(2), 7);
        Check.due("undo toll", x.undo(), 0);
        Check.due("toll", x.node(1, 14), 1);
        Check.due("why", x.why(), 0);
    }

    private static void latest() {
        GateLifter x = new GateLifter();
        for (int what = 0; what < 4; what++) {
            Check.due("latest ahead of any", x.latest(what), 0);
        }
        Check.dueThrow("latest(4)", NO_WHAT, () -> x.latest(4));
        Check.dueThrow("latest(-1)", NO_WHAT, () -> x.latest(-1));
        x.lay(0, 1);
        x.lay(1, 2);
        x.lay(3, 4);
        x.lay(2, 3);
        Check.due("gained with the part behind", x.latest(0), 24);
        Check.due("moved", x.latest(2), 0);
        Check.due("lift of those that were not", x.latest(3), 0);
        x.lay(0, 2);
        Check.due("moved by a lift", x.latest(2), 4);
        Check.due("lift", x.latest(3), 3);
        x.shut(4);
        Check.due("lift below 0", x.latest(3), -3);
        Check.dueThrow("refused", NO_STATE, () -> x.shut(4));
        Check.due("latest stays by a refused one", x.latest(3), -3);
        x.image();
        x.back();
        Check.due("latest since going back", x.latest(3), 0);
        Check.due("shut 0 loses all", x.shut(0), 4);
        Check.due("lost", x.latest(1), 30);
        x.undo();
        Check.due("latest since undo", x.latest(1), 0);
    }

    // ---- promise 15

    private static void gatesOfNodes() {
        GateLifter x = of(SAMPLE);
        dueNodes(x, 0, 1, 1, 1, 1, 1, 1, 0, 0);
        dueNodes(x, 1, -1, 0, 1, 1, 1, 4, -1, -1);
        dueNodes(x, 2, 0, 1, 2, 2, 2, 3, -1, -1);
        dueNodes(x, 3, 0, 1, 3, 3, 3, 19, 0, 0);
        dueNodes(x, 4, 62, 60, 0, 0, 32, 0, 0, 0);
        dueNodes(x, 5, 2, 28, 0, 0, 32, 0, 0, 0);
        dueNodes(x, 6, 0, 2, 16, 16, 2, 32, 0, 0);
        dueNodes(x, 7, 0, 30, 0, 0, 0, 32, 0, 0);
        dueNodes(x, 8, 0, 1, 1, 1, 1, 1, 0, 0);
        dueFirst(SAMPLE, 7, 0, 30, 0, 0, 0, 32, 0, 0);
        dueFirst(SAMPLE, 8, 0, 1, 1, 1, 1, 1, 0, 0);
        Check.dueThrow("node(8, 0)", NO_INDEX, () -> x.node(8, 0));
        Check.dueThrow("node(-1, 0)", NO_INDEX, () -> x.node(-1, 0));
        Check.dueThrow("node(8, 22)", NO_INDEX, () -> x.node(8, 22));
        Check.dueThrow("node(0, 22)", NO_WHAT, () -> x.node(0, 22));
        Check.dueThrow("node(7, -1)", NO_WHAT, () -> x.node(7, -1));
    }

    private static void waysOfNodes() {
        GateLifter x = of(SAMPLE);
        dueNodes(x, 9, 0, 1, 2, 2, 3, 4, -1, -1);
        dueNodes(x, 10, 1, 4, 4, 4, 5, -1, -1, -1);
        dueNodes(x, 11, 50, 48, 48, 48, 32, 0, 0, 0);
        dueNodes(x, 14, 1, 1, 5, 2, 1, 0, 1, 1);
        dueNodes(x, 15, 1, 2, 7, 4, 3, 3, -1, -1);
        dueNodes(x, 16, 1, 2, 7, 4, 5, 5, -1, -1);
        dueNodes(x, 17, 0, 12, 0, 0, 18, 32, 0, 0);
        dueNodes(x, 18, 1, 30, 30, 30, 30, 32, 0, 0);
        dueNodes(x, 21, 1, 18, 4, 8, 18, 32, 0, 0);
        dueFirst(SAMPLE, 10, 1, 4, 4, 4, 5, -1, -1, -1);
        dueFirst(SAMPLE, 11, 50, 48, 48, 48, 32, 0, 0, 0);
        dueFirst(SAMPLE, 17, 0, 12, 0, 0, 18, 32, 0, 0);
        x.tell(7, true);
        dueNodes(x, 10, -1, -1, -1, -1, -1, -1, -1, -1);
        dueNodes(x, 11, 0, 0, 0, 0, 0, 0, 0, 0);
        dueNodes(x, 17, 0, 0, 0, 0, 0, 0, 0, 0);
        // from 5 no way goes to the exit now
        x.tell(2, true);
        dueNodes(x, 10, 1, 2, -1, 4, 1, -1, -1, -1);
        dueNodes(x, 17, 0, 26, 22, 0, 0, 0, 0, 0);
    }

    private static void hardAndWall() {
        GateLifter x = of(SAMPLE);
        dueNodes(x, 12, 99, 1, 1, 1, 1, 1, 0, 0);
        dueNodes(x, 13, -1, -1, 1, 1, 1, 1, 0, 0);
        // two arcs to 1, one to 2, three to 3; 4 behind 1 and 2, 5 behind 3 and 4
        GateLifter y = of("lay 0 1,0 1,0 2,0 3,0 3,0 3,1 4,1 4,2 4,3 5,3 5,4 5,4 5,4 5,4 5;lay 5 6,5 6,5 0,2 3,3 2");
        dueNodes(y, 12, 99, 2, 2, 4, 3, 5, 2, 0);
        dueNodes(y, 13, -1, -1, -1, -1, 2, 2, 1, 0);
        y.shut(3);
        y.shut(4);
        y.shut(5);
        Check.due("wall of 3 behind 2 alone", y.node(3, 13), 1);
        Check.due("hard of 3 behind 2 alone", y.node(3, 12), 1);
        Check.due("wall of 5, where 2 leads on two ways", y.node(5, 13), 2);
    }

    private static void innerAndOuter() {
        // 2 and 3 in a loop, in one of 1 to 3; 4 with an arc to itself; 5, 6 in one more
        String nested = "lay 0 1,1 2,2 3,3 2,3 1,3 4,4 4,4 5,5 6,6 5,6 0";
        GateLifter x = of(nested);
        dueFirst(nested, 19, 0, 1, 2, 2, 4, 5, 5, -1);
        dueFirst(nested, 20, -1, 0, 1, 1, 0, 0, 0, -1);
        dueNodes(x, 7, 127, 14, 12, 0, 16, 96, 0, 0);
        dueNodes(x, 8, 1, 2, 3, 3, 2, 2, 2, 0);
        dueNodes(x, 19, 0, 1, 2, 2, 4, 5, 5, -1);
        dueNodes(x, 20, -1, 0, 1, 1, 0, 0, 0, -1);
        // no body is within another one of as many nodes
        GateLifter y = of("lay 0 1,1 0,0 2,2 0");
        dueNodes(y, 19, 0, 0, 0, -1);
        dueNodes(y, 20, -1, -1, -1, -1);
    }

    // ---- promises 16 to 25

    private static void keepsAndCommon() {
        GateLifter x = of(SAMPLE);
        Check.due("keeps(1, 5)", x.keeps(1, 5), true);
        Check.due("keeps(5, 1)", x.keeps(5, 1), false);
        Check.due("keeps(2, 4)", x.keeps(2, 4), false);
        Check.due("keeps(1, 1)", x.keeps(1, 1), false);
        Check.due("keeps(6, 7)", x.keeps(6, 7), false);
        Check.dueThrow("keeps(0, 8)", NO_INDEX, () -> x.keeps(0, 8) ? 1 : 0);
        Check.dueThrow("keeps(-1, 0)", NO_INDEX, () -> x.keeps(-1, 0) ? 1 : 0);
        int[][] dues = {{2, 3, 1}, {5, 2, 1}, {4, 5, 4}, {5, 4, 4}, {0, 5, 0}, {3, 3, 3}, {6, 0, -1}, {0, 6, -1}};
        for (int[] due : dues) {
            Check.due("common(" + due[0] + ", " + due[1] + ")", x.common(due[0], due[1]), due[2]);
        }
        Check.dueThrow("common(8, 0)", NO_INDEX, () -> x.common(8, 0));
        Check.dueThrow("common(0, -1)", NO_INDEX, () -> x.common(0, -1));
    }

    private static void walkAndRow() {
        GateLifter x = of("lay 0 7,7 3,7 5,3 1,0 2,2 4,7 4");
        int[] walk = {0, 2, 4, 7, 3, 1, 5, -1};
        int[] row = {0, 2, 7, 3, 4, 5, 1, -1};
        for (int k = 0; k < walk.length; k++) {
            Check.due("walk(" + k + ")", x.walk(k), walk[k]);
            Check.due("row(" + k + ")", x.row(k), row[k]);
        }
        for (int k : new int[] {-1, 8, 16, 100, Integer.MIN_VALUE, Integer.MAX_VALUE}) {
            Check.due("walk(" + k + ")", x.walk(k), -1);
            Check.due("row(" + k + ")", x.row(k), -1);
        }
        x.tell(3, false);
        Check.due("walk(0) from 3", x.walk(0), 3);
        Check.due("row(1) from 3", x.row(1), 1);
        Check.due("walk(2) from 3", x.walk(2), -1);
    }

    private static void arc() {
        GateLifter x = of(SAMPLE);
        int[] kinds = {3, 3, 3, 4, 4, 2, 3, 2, 1};
        int[] bridges = {1, 1, 1, 0, 0, 0, 1, 0, 0};
        for (int i = 0; i < kinds.length; i++) {
            Check.due("kind of " + i, x.arc(i, 3), kinds[i]);
            Check.due("bridge " + i, x.arc(i, 4), bridges[i]);
            Check.due("open " + i, x.arc(i, 2), 1);
        }
        Check.due("from of 4", x.arc(4, 0), 3);
        Check.due("to of 4", x.arc(4, 1), 4);
        x.shut(3);
        Check.due("kind of a shut one", x.arc(3, 3), 0);
        Check.due("open of a shut one", x.arc(3, 2), 0);
        Check.due("bridge of a shut one", x.arc(3, 4), 0);
        Check.due("kind of the other one", x.arc(4, 3), 3);
        Check.due("bridge of the other one", x.arc(4, 4), 1);
        x.lay(0, 1);
        Check.due("no bridge beside a like one", x.arc(0, 4), 0);
        Check.due("kind of both", x.arc(0, 3) + x.arc(9, 3), 6);
        Check.dueThrow("arc(10, 0)", NO_INDEX, () -> x.arc(10, 0));
        Check.dueThrow("arc(-1, 9)", NO_INDEX, () -> x.arc(-1, 9));
        Check.dueThrow("arc(0, 5)", NO_WHAT, () -> x.arc(0, 5));
        Check.dueThrow("arc(0, -1)", NO_WHAT, () -> x.arc(0, -1));
    }

    private static void withoutAndSeal() {
        GateLifter x = of(SAMPLE);
        int[] without = {62, 60, 0, 0, 32, 0, 0, 0};
        for (int v = 0; v < without.length; v++) {
            Check.due("without(" + v + ")", x.without(v), without[v]);
        }
        Check.dueThrow("without(8)", NO_INDEX, () -> x.without(8));
        Check.dueThrow("without(-1)", NO_INDEX, () -> x.without(-1));
        int[][] seals = {{0, 0}, {12, 48}, {2, 60}, {1, 62}, {64, 0}, {255, 0}, {20, 32}, {3, 60}};
        for (int[] seal : seals) {
            Check.due("seal(" + seal[0] + ")", x.seal(seal[0]), seal[1]);
        }
        Check.dueThrow("seal(256)", NO_ARGUMENT, () -> x.seal(256));
        Check.dueThrow("seal(-1)", NO_ARGUMENT, () -> x.seal(-1));
        x.net(16);
        Check.due("seal of sixteen", x.seal(65535), 0);
        Check.dueThrow("seal(65536)", NO_ARGUMENT, () -> x.seal(65536));
    }

    private static void chainAndLevel() {
        GateLifter x = of(SAMPLE);
        int[] chain = {0, 1, 4, 5, -1};
        for (int k = 0; k < chain.length; k++) {
            Check.due("chain(5, " + k + ")", x.chain(5, k), chain[k]);
        }
        Check.due("chain(0, 0)", x.chain(0, 0), 0);
        Check.due("chain(5, -1)", x.chain(5, -1), -1);
        Check.due("chain(5, max)", x.chain(5, Integer.MAX_VALUE), -1);
        Check.due("chain(6, 0)", x.chain(6, 0), -1);
        Check.due("chain(6, -1)", x.chain(6, -1), -1);
        Check.dueThrow("chain(8, 0)", NO_INDEX, () -> x.chain(8, 0));
        int[] levels = {1, 2, 28, 32, 0};
        for (int depth = 0; depth < levels.length; depth++) {
            Check.due("level(" + depth + ")", x.level(depth), levels[depth]);
        }
        Check.due("level(-1)", x.level(-1), 0);
        Check.due("level(max)", x.level(Integer.MAX_VALUE), 0);
    }

    private static void via() {
        GateLifter x = of(SAMPLE);
        int[][] dues = {{1, 4, 0}, {0, 5, 18}, {4, 2, 2}, {6, 7, 0}, {7, 6, -1}, {5, 5, 0}, {5, 1, -1}, {2, 3, 18}};
        for (int[] due : dues) {
            Check.due("via(" + due[0] + ", " + due[1] + ")", x.via(due[0], due[1]), due[2]);
        }
        x.lay(7, 3);
        Check.due("via from who is not reached", x.via(6, 4), 136);
        Check.dueThrow("via(0, 8)", NO_INDEX, () -> x.via(0, 8));
        Check.dueThrow("via(-1, 0)", NO_INDEX, () -> x.via(-1, 0));
    }

    private static void pass() {
        GateLifter x = of(SAMPLE);
        int[][] dues = {{5, -1, 2}, {5, 0, 0}, {5, 1, 6}, {5, 2, -1}, {5, -2, -1}, {2, 1, 1}, {4, -1, 1},
            {6, -1, -1}, {6, 0, -1}, {0, -1, 0}, {0, 0, -1}};
        for (int[] due : dues) {
            Check.due("pass(" + due[0] + ", " + due[1] + ")", x.pass(due[0], due[1]), due[2]);
        }
        Check.dueThrow("pass(8, -1)", NO_INDEX, () -> x.pass(8, -1));
        Check.dueThrow("pass(-1, 0)", NO_INDEX, () -> x.pass(-1, 0));
        // numbered against the way that they lie on
        GateLifter y = of("lay 2 3,1 2,0 1,3 1");
        Check.due("pass(3, 0)", y.pass(3, 0), 2);
        Check.due("pass(3, 1)", y.pass(3, 1), 1);
        Check.due("pass(3, 2)", y.pass(3, 2), 0);
        y.lay(1, 2);
        Check.due("pass(3, -1) with two like ones", y.pass(3, -1), 2);
        Check.due("pass(3, 1) with two like ones", y.pass(3, 1), 0);
    }

    // ---- promises 26 to 30

    private static void fall() {
        GateLifter x = of(SAMPLE);
        int[][] dues = {{3, 0, 16, -2}, {0, 62, 0, 0}, {6, 32, 0, 0}, {5, 0, 0, 0}, {8, 0, 0, 0}};
        for (int[] due : dues) {
            for (int what = 0; what < 3; what++) {
                Check.due("fall(" + due[0] + ", " + what + ")", x.fall(due[0], what), due[what + 1]);
            }
        }
        Check.due("nothing is shut by fall", x.count(4), 9);
        Check.due("nothing is remembered by fall", x.count(14), 0);
        x.shut(3);
        Check.due("latest", x.latest(3), -2);
        Check.dueThrow("fall(3, 0)", NO_STATE, () -> x.fall(3, 0));
        Check.dueThrow("fall(3, 3)", NO_WHAT, () -> x.fall(3, 3));
        Check.dueThrow("fall(0, -1)", NO_WHAT, () -> x.fall(0, -1));
        Check.dueThrow("fall(9, 3)", NO_INDEX, () -> x.fall(9, 3));
        Check.dueThrow("fall(-1, 0)", NO_INDEX, () -> x.fall(-1, 0));
    }

    private static void worst() {
        GateLifter x = of(SAMPLE);
        Check.due("worst(0)", x.worst(0), 0);
        Check.due("worst(1)", x.worst(1), 5);
        x.lay(0, 1);
        Check.due("worst(0), of several the least", x.worst(0), 1);
        Check.due("worst(1)", x.worst(1), 1);
        x.net(3);
        x.lay(1, 2);
        x.lay(0, 0);
        Check.due("worst(0) of none", x.worst(0), -1);
        Check.due("worst(1) of none", x.worst(1), 0);
        Check.dueThrow("worst(2)", NO_WHAT, () -> x.worst(2));
        Check.dueThrow("worst(-1)", NO_WHAT, () -> x.worst(-1));
    }

    private static void would() {
        GateLifter x = of(SAMPLE);
        int[][] dues = {{0, 4, 0, 16, 2}, {0, 6, 192, 0, 0}, {6, 0, 0, 0, 0}, {0, 2, 0, 20, 3}, {4, 2, 0, 0, 0},
            {3, 3, 0, 0, 0}, {5, 0, 0, 0, 0}};
        for (int[] due : dues) {
            for (int what = 0; what < 3; what++) {
                Check.due("would(" + due[0] + ", " + due[1] + ", " + what + ")",
                        x.would(due[0], due[1], what), due[what + 2]);
            }
        }
        Check.due("nothing is laid by would", x.count(3), 9);
        // a part that is not reached, from which a way goes back in: gained and lifted at once
        x.lay(7, 5);
        Check.due("would(0, 6, 0)", x.would(0, 6, 0), 192);
        Check.due("would(0, 6, 1)", x.would(0, 6, 1), 32);
        Check.due("would(0, 6, 2)", x.would(0, 6, 2), 2);
        x.lay(0, 6);
        Check.due("gained as told", x.latest(0), 192);
        Check.due("moved as told", x.latest(2), 32);
        Check.due("lift as told", x.latest(3), 2);
        Check.dueThrow("would(0, 8, 3)", NO_INDEX, () -> x.would(0, 8, 3));
        Check.dueThrow("would(-1, 0, 0)", NO_INDEX, () -> x.would(-1, 0, 0));
        Check.dueThrow("would(0, 1, 3)", NO_WHAT, () -> x.would(0, 1, 3));
        Check.dueThrow("would(0, 1, -1)", NO_WHAT, () -> x.would(0, 1, -1));
        GateLifter full = new GateLifter();
        for (int i = 0; i < 60; i++) {
            full.lay(0, 1);
        }
        Check.due("would of a 61st", full.would(1, 2, 0), 4);
    }

    private static void best() {
        GateLifter x = of(SAMPLE);
        Check.due("best(0)", x.best(0), 0);
        Check.due("best(1)", x.best(1), 2);
        Check.due("best(2)", x.best(2), 3);
        x.net(3);
        x.lay(0, 1);
        Check.due("best(0) of none", x.best(0), -1);
        Check.due("best(1) of none", x.best(1), -1);
        Check.due("best(2) of none", x.best(2), 0);
        Check.dueThrow("best(3)", NO_WHAT, () -> x.best(3));
        Check.dueThrow("best(-1)", NO_WHAT, () -> x.best(-1));
        // the middle of a row lifts more than its far end, also by way of who is not reached
        GateLifter y = of("net 16;lay 1 2,2 3,3 4,4 5,5 6,6 7,15 7,14 15;root 1");
        Check.due("best(0)", y.best(0), 1);
        Check.due("best(1)", y.best(1), 5);
        Check.due("best(2)", y.best(2), 9);
        Check.due("would by way of 14", y.would(1, 14, 2), 5);
    }

    // ---- promises 31 to 35

    private static void dueWritten(GateLifter x, int node, String want) {
        Check.due("text(" + node + ")", x.text(node), want.length());
        for (int k = 0; k < want.length(); k++) {
            Check.due("octet(" + k + ")", x.octet(k), want.charAt(k));
        }
        Check.due("octet behind", x.octet(want.length()), -1);
    }

    private static void textAndOctet() {
        GateLifter x = of(SAMPLE);
        dueWritten(x, 5, "0 1 4 5");
        dueWritten(x, 0, "0");
        Check.dueThrow("text(8)", NO_INDEX, () -> x.text(8));
        Check.dueThrow("text(-1)", NO_INDEX, () -> x.text(-1));
        Check.due("what was written stays by a throw", x.octet(0), '0');
        Check.due("octet(-1)", x.octet(-1), -1);
        Check.due("octet(max)", x.octet(Integer.MAX_VALUE), -1);
        dueWritten(x, 6, "");
        GateLifter row = of("net 16;lay 0 1,1 2,2 3,3 4,4 5,5 6,6 7,7 8,8 9,9 10,10 11,11 12,12 13,13 14,14 15");
        dueWritten(row, 15, "0 1 2 3 4 5 6 7 8 9 10 11 12 13 14 15");
        row.net(3);
        Check.due("what was written stays by net", row.octet(0), '0');
    }

    private static void image() {
        GateLifter x = of(SAMPLE);
        Check.due("back without an image", x.back(), false);
        x.lay(0, 6);
        x.image();
        Check.due("what is remembered stays by image", x.count(14), 1);
        Check.due("latest stays by image", x.latest(0), 192);
        x.toll(0, 9);
        x.shut(0);
        x.tell(3, true);
        x.tell(2, false);
        x.text(2);
        x.feed(0x20202020, 0, 0, 0, 0);
        x.end(3);
        read(x, "lay");
        x.feed(0x20202020, 0, 0, 0, 0);
        x.end(3);
        Check.dueThrow("refused", NO_STATE, () -> x.shut(0));
        Check.due("back", x.back(), true);
        int[] counts = {8, 0, 5, 10, 10, 255};
        for (int what = 0; what < counts.length; what++) {
            Check.due("count(" + what + ") back", x.count(what), counts[what]);
        }
        Check.due("toll back", x.node(0, 14), 1);
        Check.due("arc 0 is open", x.arc(0, 2), 1);
        Check.due("nothing is remembered", x.count(14), 0);
        Check.due("no latest", x.latest(0), 0);
        Check.due("the tape stays", x.end(3), true);
        Check.due("fault stays", x.fault(), 3);
        Check.due("why stays", x.why(), 4);
        Check.due("what was written stays", x.octet(0), '2');
        x.net(2);
        Check.due("back a second time", x.back(), true);
        Check.due("nodes", x.count(0), 8);
        x.lay(1, 1);
        x.image();
        x.net(5);
        x.back();
        Check.due("back to the later image", x.count(3), 11);
    }

    private static void count() {
        GateLifter x = of(SAMPLE);
        int[] counts = {8, 0, 5, 9, 9, 63, 3, 34, 2, 4, 1, 10, 44, 1, 0, 6, 3, 10, 3};
        for (int what = 0; what < counts.length; what++) {
            Check.due("count(" + what + ")", x.count(what), counts[what]);
        }
        for (int what = 0; what < counts.length; what++) {
            Check.due("first count(" + what + ")", of(SAMPLE).count(what), counts[what]);
        }
        for (int what : new int[] {-1, 19, Integer.MIN_VALUE, Integer.MAX_VALUE}) {
            Check.due("count(" + what + ")", x.count(what), -1);
        }
        x.shut(3);
        Check.due("open ones", x.count(4), 8);
        Check.due("what is remembered", x.count(14), 1);
        // two heads of no loop: a circle with two ways in
        GateLifter y = of("lay 0 1,0 2,1 2,2 1,2 3,3 3");
        Check.due("sound", y.count(10), 0);
        Check.due("heads", y.count(7), 8);
        y.shut(1);
        Check.due("sound with one way in", y.count(10), 1);
        Check.due("heads then", y.count(7), 10);
        // a circle that is not reached does not count
        GateLifter z = of("lay 1 2,2 1,1 3,2 3,3 1");
        Check.due("sound where nobody is reached", z.count(10), 1);
        Check.due("back arcs", z.count(8), 0);
        Check.due("rings", z.count(16), 1);
        Check.due("spare arcs", z.count(18), 5);
        GateLifter nested = of("lay 0 1,1 2,2 3,3 2,3 1,3 4,4 4,4 5,5 6,6 5,6 0");
        Check.due("the most nest", nested.count(13), 3);
        Check.due("rings in one", nested.count(16), 1);
    }
}
