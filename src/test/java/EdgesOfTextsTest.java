/** The edges that the document names for the TAPE, ACTS in texts, fault() and WHY: a test for each sentence. */
public final class EdgesOfTextsTest {
    private static final String BLANKS_20 = " ".repeat(20);

    private EdgesOfTextsTest() {
    }

    public static void main(String[] args) {
        manyBytes();
        orderOfBytes();
        firstBytes();
        usedUp();
        noActs();
        fourteenActs();
        bounds();
        digits();
        letters();
        blanks();
        oneBehindAnother();
        readWhole();
        severalTimes();
        firstWrongByte();
        textsLength();
        firstWord();
        nothingStays();
        latestText();
        whyOfTexts();
        howMany();
        Check.finish();
    }

    // ---- what texts are due to do

    /** That a text is right. */
    private static GateLifter right(String text, int acts) {
        GateLifter x = new GateLifter();
        right(x, text, acts);
        return x;
    }

    private static void right(GateLifter x, String text, int acts) {
        Check.due("acts of '" + text + "'", Texts.tell(x, text), acts);
        Check.due("fault of '" + text + "'", x.fault(), -1);
    }

    /** That a text is wrong on a new object: where, and what WHY is then. */
    private static void wrong(String text, int fault, int why) {
        GateLifter x = new GateLifter();
        String before = State.withoutWhyAndFault(x);
        wrong(x, text, fault, why);
        Check.due("all behind '" + text + "'", State.withoutWhyAndFault(x), before);
    }

    private static void wrong(GateLifter x, String text, int fault, int why) {
        Check.due("acts of '" + text + "'", Texts.tell(x, text), -1);
        Check.due("fault of '" + text + "'", x.fault(), fault);
        Check.due("why of '" + text + "'", x.why(), why);
    }

    // ---- the tape

    private static void manyBytes() {
        Check.sentence("how many it has; NONE, and none come, if it would have more than 400");
        GateLifter x = new GateLifter();
        for (int bytes = 20; bytes <= 400; bytes += 20) {
            Check.due("feed", x.feed(0x20202020, 0x20202020, 0x20202020, 0x20202020, 0x20202020), bytes);
        }
        Check.due("feed of 420", x.feed(0x78787878, 0, 0, 0, 0), -1);
        Check.due("end(401)", x.end(401), false);
        Check.due("end(400)", x.end(400), true);
        Check.due("acts of 400 blanks", Texts.acts(x), 0);
        Texts.put(x, " ".repeat(381));
        Check.due("feed of 401", x.feed(0x78787878, 0, 0, 0, 0), -1);
        Check.due("none came", x.end(382), false);
        Check.due("acts of 381 blanks", Texts.acts(x), 0);
        Texts.put(x, " ".repeat(380));
        Check.due("feed of 400", x.feed(0x65786974, 0x20362020, 0x20202020, 0x20202020, 0x20202020), 400);
        Check.due("acts behind 380 blanks", Texts.acts(x), 1);
        Check.due("feed of one used up", x.feed(0, 0, 0, 0, 0), 20);
    }

    private static void orderOfBytes() {
        Check.sentence("Twenty bytes come behind the TAPE, of each number the highest first");
        GateLifter x = new GateLifter();
        x.feed(0x72203031, 0x3b202020, 0x3b203131, 0x20202020, 0x20202020);
        x.end(0);
        x.feed(0x6c617920, 0x3020312c, 0x31203220, 0x3b746f6c, 0x6c203720);
        Check.due("feed of forty", x.feed(0x35393b65, 0x78697420, 0x33202020, 0x20202020, 0x20202020), 40);
        Check.due("acts", Texts.acts(x), 3);
        Check.due("to of arc 1", x.arc(1, 1), 2);
        Check.due("toll", x.node(7, 14), 59);
        Check.due("exit", x.count(2), 3);
        // bytes above 127 are what they are, not below 0
        for (int octet : new int[] {0x80, 0xa0, 0xff, 0xe5, 0x00}) {
            x.feed(0x20202020 & 0xffffff00 | octet, 0x20202020, 0x20202020, 0x20202020, 0x20202020);
            Check.due("acts with byte " + octet, Texts.acts(x), -1);
            Check.due("fault with byte " + octet, x.fault(), 3);
            x.feed(octet << 24 | 0x202020, 0x20202020, 0x20202020, 0x20202020, 0x20202020);
            Check.due("acts with first byte " + octet, Texts.acts(x), -1);
            Check.due("fault with first byte " + octet, x.fault(), 0);
        }
        Check.due("feed behind what ended at 3", fedBehindThree(), 1);
    }

    /** "exi" ahead of "t 2". */
    private static int fedBehindThree() {
        GateLifter x = new GateLifter();
        x.feed(0x65786961, 0x61616161, 0x61616161, 0x61616161, 0x61616161);
        x.end(3);
        Check.due("feed behind three", x.feed(0x74203220, 0x20202020, 0x20202020, 0x20202020, 0x20202020), 23);
        return Texts.acts(x);
    }

    private static void firstBytes() {
        Check.sentence("true; false, and nothing happens, if it has fewer, or n is below 0");
        GateLifter x = new GateLifter();
        Check.due("end(0) of an empty one", x.end(0), true);
        Check.due("end(1) of an empty one", x.end(1), false);
        x.feed(0x65786974, 0x20333b3b, 0x3b3b3b3b, 0x3b3b3b3b, 0x3b3b3b3b);
        for (int n : new int[] {21, 22, 400, 401, -1, -2, Integer.MIN_VALUE, Integer.MAX_VALUE}) {
            Check.due("end(" + n + ")", x.end(n), false);
        }
        Check.due("end(20), all of it", x.end(20), true);
        Check.due("end(6)", x.end(6), true);
        Check.due("end(7)", x.end(7), false);
        Check.due("end(6) again", x.end(6), true);
        Check.due("acts", Texts.acts(x), 1);
        Check.due("exit", x.count(2), 3);
        Texts.put(x, "exit 4");
        Check.due("end(0)", x.end(0), true);
        Check.due("acts of none", Texts.acts(x), 0);
        Check.due("exit then", x.count(2), 3);
    }

    private static void usedUp() {
        Check.sentence("Uses the TAPE up");
        GateLifter x = new GateLifter();
        for (String text : new String[] {"exit 6", "exit 6;", "exit 9", "?", "  ", ""}) {
            Texts.tell(x, text);
            Check.due("end(1) behind '" + text + "'", x.end(1), false);
            Check.due("end(0) behind '" + text + "'", x.end(0), true);
            Check.due("acts again behind '" + text + "'", Texts.acts(x), 0);
        }
        Check.due("exit", x.count(2), 6);
    }

    // ---- what may stand in a text

    private static void noActs() {
        Check.sentence("[ ACT { ; ACT } ]");
        right("", 0);
        right(" ", 0);
        right(" ".repeat(400), 0);
        right("exit 6", 1);
        right("exit 6;exit 5", 2);
        wrong(";", 0, 0);
        wrong("  ;", 2, 0);
        wrong(";exit 6", 0, 0);
        wrong("exit 6;;exit 5", 7, 0);
        wrong("exit 6 exit 5", 7, 0);
        wrong("exit 6,exit 5", 6, 0);
        wrong("exit 6,5", 6, 0);
        wrong("exit 6 5", 7, 0);
        wrong("net 4,5", 5, 0);
        wrong("toll 1 2,3 4", 8, 0);
        wrong("lay 0 1;1 2", 8, 0);
        wrong("lay 0,1", 5, 0);
        wrong("lay ,0 1", 4, 0);
        wrong("lay 0 1,,1 2", 8, 0);
        wrong("exit;6", 4, 0);
        wrong("exit:6", 4, 0);
        wrong("exit -6", 5, 0);
        wrong("exit +6", 5, 0);
        wrong("exit 6.", 6, 0);
    }

    private static void fourteenActs() {
        Check.sentence("at most 14 ... of an ACT too many ... its first word");
        String fourteen = "exit 6;exit 7;".repeat(7);
        GateLifter x = right(fourteen.substring(0, 97), 14);
        Check.due("exit behind fourteen", x.count(2), 7);
        right(" " + fourteen.substring(0, 97) + "  ", 14);
        right(fourteen.substring(0, 90), 13);
        wrong(fourteen + "exit 6", 98, 0);
        wrong(fourteen + "  exit 6", 100, 0);
        wrong(fourteen + "lay 0 1;lay 0 1", 98, 0);
        // it is too many, whatever it tells
        wrong(fourteen + "root 8", 98, 0);
        wrong(fourteen + "net 1", 98, 0);
        wrong(fourteen, 98, 0);
        wrong(fourteen + " ", 99, 0);
        wrong(fourteen.substring(0, 97) + " exit 6", 98, 0);
        // what an act tells several times is one act
        right("lay 0 1,1 2,2 3,3 4,4 5,5 6,6 7,0 1,1 2,2 3,3 4,4 5,5 6,6 7,7 0", 1);
    }

    private static void bounds() {
        Check.sentence("out of its bounds (net 2 to 16, NODES 0 to 15, ARCS 0 to 59) ... TOLL 0 to 99");
        Check.due("net 2", right("net 2", 1).count(0), 2);
        Check.due("net 16", right("net 16", 1).count(0), 16);
        Check.due("net 02", right("net 02", 1).count(0), 2);
        wrong("net 1", 4, 0);
        wrong("net 0", 4, 0);
        wrong("net 17", 4, 0);
        wrong("net 99", 4, 0);
        right("net 16;root 15;exit 0;lay 15 15,0 15,15 0;toll 15 0;toll 0 99", 6);
        // 15 may be told, though it is refused; 16 may not
        wrong("root 15", 0, 1);
        wrong("root 16", 5, 0);
        wrong("exit 15", 0, 1);
        wrong("exit 16", 5, 0);
        wrong("lay 15 0", 0, 1);
        wrong("lay 16 0", 4, 0);
        wrong("lay 0 15", 0, 1);
        wrong("lay 0 16", 6, 0);
        wrong("toll 15 5", 0, 1);
        wrong("toll 16 5", 5, 0);
        wrong("shut 59", 0, 3);
        wrong("shut 60", 5, 0);
        wrong("open 59", 0, 3);
        wrong("open 60", 5, 0);
        wrong("toll 0 100", 7, 0);
        Check.due("toll 99", right("toll 3 99", 1).node(3, 14), 99);
        Check.due("toll 0", right("toll 3 0", 1).node(3, 14), 0);
        GateLifter x = right("lay 0 1" + ",0 1".repeat(59), 1);
        right(x, "shut 59;open 59", 2);
        wrong(x, "shut 60", 5, 0);
    }

    private static void digits() {
        Check.sentence("Numbers are of 1 to 2 digits ... a number of more digits");
        right("root 1", 1);
        right("root 01", 1);
        wrong("root 001", 5, 0);
        wrong("root 000", 5, 0);
        wrong("root 0000000000000001", 5, 0);
        wrong("root 4294967297", 5, 0);
        wrong("exit  018446744073709551617", 6, 0);
        wrong("net 008", 4, 0);
        wrong("lay 0 012", 6, 0);
        wrong("lay 012 0", 4, 0);
        wrong("shut 000", 5, 0);
        wrong("toll 0 000", 7, 0);
        right("lay 00 01", 1);
        right("lay 0 1;shut 00", 2);
        right("toll 00 00", 1);
        // two numbers without a blank are one
        wrong("lay 01", 6, 0);
        wrong("lay 0101", 4, 0);
        wrong("exit 6 6", 7, 0);
    }

    private static void letters() {
        Check.sentence("words as long as a to z go on ... a word that is none");
        for (String word : new String[] {"net", "root", "exit", "lay", "shut", "open", "toll"}) {
            wrong(word, word.length(), 0);
            wrong(word + "x 3", 0, 0);
            wrong(word + "a 3", 0, 0);
            wrong(word + "z 3", 0, 0);
            wrong(word + "` 3", word.length(), 0);
            wrong(word + "{ 3", word.length(), 0);
            wrong(word + "A 3", word.length(), 0);
            wrong(word.substring(0, word.length() - 1) + " 3", 0, 0);
            wrong(word.substring(1) + " 3", 0, 0);
            wrong(word.toUpperCase() + " 3", 0, 0);
            wrong(word + word + " 3", 0, 0);
            wrong(" x" + word + " 3", 1, 0);
            for (int i = 0; i < word.length(); i++) {
                wrong(word.substring(0, i) + "q" + word.substring(i + 1) + " 3", 0, 0);
            }
            for (int i = 1; i < word.length(); i++) {
                wrong(word.substring(0, i) + " " + word.substring(i) + " 3", 0, 0);
            }
        }
        wrong("exi t 6", 0, 0);
        wrong("exit 6;exi", 7, 0);
        wrong("exit 6;x", 7, 0);
        wrong("a", 0, 0);
        wrong("x".repeat(400), 0, 0);
        wrong("exit six", 5, 0);
        wrong("exit 6six", 6, 0);
    }

    private static void blanks() {
        Check.sentence("between all there may be blanks (32), also ahead and behind");
        right("exit6", 1);
        right("net4;lay0 1,1 2;shut0;open0;root1;exit1;toll1 5", 7);
        right("   net   4   ;   lay   0   1   ,   1   2   ;   shut   0   ,   1   ", 3);
        right(BLANKS_20 + BLANKS_20 + "exit 6", 1);
        right("exit 6" + BLANKS_20, 1);
        right("exit" + " ".repeat(395) + "6", 1);
        int[] others = {0, 9, 10, 13, 31, 33, 160, 255};
        for (int sign : others) {
            wrong((char) sign + "exit 6", 0, 0);
            wrong("exit" + (char) sign + "6", 4, 0);
            wrong("exit 6" + (char) sign, 6, 0);
            wrong("lay 0" + (char) sign + "1", 5, 0);
            wrong("exit 6; " + (char) sign, 8, 0);
        }
    }

    // ---- what is done, and when

    private static void oneBehindAnother() {
        Check.sentence("They are done one behind another");
        GateLifter x = right("root 1;root 0;root 1", 3);
        Check.due("root", x.count(1), 1);
        x = right("lay 0 1;shut 0;open 0;shut 0", 4);
        Check.due("open ones", x.count(4), 0);
        x = right("root 3;exit 2;toll 0 9;lay 0 1;net 9;root 8;exit 0;lay 8 0", 8);
        Check.due("nodes", x.count(0), 9);
        Check.due("toll", x.node(0, 14), 1);
        Check.due("arcs", x.count(3), 1);
        wrong("root 1;root 1", 7, 4);
        wrong("shut 0;lay 0 1", 0, 3);
        wrong("root 7;net 4;root 7", 13, 1);
        wrong("lay 0 1;net 8;shut 0", 14, 3);
        wrong("net 5;exit 4", 6, 4);
        wrong("net 5;root 0", 6, 4);
        wrong("toll 2 3;net 8;toll 2 1", 15, 4);
    }

    private static void readWhole() {
        Check.sentence("each read whole ahead of it");
        wrong("lay 0 8,1 x", 10, 0);
        wrong("lay 0 8,", 8, 0);
        wrong("shut 0,60", 7, 0);
        wrong("shut 5,5,", 9, 0);
        wrong("lay 9 9,0 16", 10, 0);
        // what comes behind the act is not read ahead of it
        wrong("lay 0 8;lay", 0, 1);
        wrong("root 9;;", 0, 1);
        wrong("toll 0 1;x", 0, 4);
    }

    private static void severalTimes() {
        Check.sentence("what an ACT tells several times one by one");
        GateLifter x = right("lay 0 1,1 2,2 2", 1);
        Check.due("from of 1", x.arc(1, 0), 1);
        Check.due("to of 1", x.arc(1, 1), 2);
        Check.due("from of 2", x.arc(2, 0), 2);
        right(x, "shut 2,0", 1);
        Check.due("open ones", x.count(4), 1);
        wrong(x, "open 0,2,0", 0, 4);
        Check.due("open ones behind a wrong text", x.count(4), 1);
        wrong(x, "open 0,2,1", 0, 4);
        wrong(x, "open 0,3", 0, 3);
        right(x, "open 0,2;shut 1,0,2", 2);
        wrong("lay 0 1;shut 0,0", 8, 4);
        wrong("lay 0 1,1 8,2 3", 0, 1);
        wrong("lay 0 1" + ",0 1".repeat(60), 0, 2);
        wrong("lay 0 1" + ",0 1".repeat(59) + ";lay 0 1", 244, 2);
        // of the sixty-first a node that there is not
        wrong("lay 0 1" + ",0 1".repeat(59) + ";lay 0 8", 244, 1);
    }

    private static void firstWrongByte() {
        Check.sentence("the begin of the first thing that cannot stand there");
        wrong("12 exit 6", 0, 0);
        wrong("   12 exit 6", 3, 0);
        wrong("exit  root", 6, 0);
        wrong("exit  ;", 6, 0);
        wrong("exit  ,", 6, 0);
        wrong("lay 0  root", 7, 0);
        wrong("lay 0 1  root 2", 9, 0);
        wrong("lay 0 1  2", 9, 0);
        wrong("lay 0 1 , ; ", 10, 0);
        wrong("toll 0  ;", 8, 0);
        wrong("  net  017", 7, 0);
    }

    private static void textsLength() {
        Check.sentence("or the text's length, if more must come");
        String[] texts = {"net", "net ", "root", "root  ", "exit", "exit ", "lay", "lay ", "lay 0", "lay 0 ",
            "lay 0 1,", "lay 0 1, ", "lay 0 1,1", "lay 0 1,1 ", "shut", "shut ", "lay 0 1;shut 0,", "open",
            "lay 0 1;open 0 , ", "toll", "toll ", "toll 1", "toll 1 ", "exit 6;", "exit 6 ; ", "  lay"};
        for (String text : texts) {
            wrong(text, text.length(), 0);
        }
        wrong("exit 6;" + " ".repeat(393), 400, 0);
        wrong("exit" + " ".repeat(396), 400, 0);
    }

    private static void firstWord() {
        Check.sentence("of an ACT ... that is refused, its first word");
        wrong("root 8", 0, 1);
        wrong("   root 8", 3, 1);
        wrong("exit 6 ;  root   0", 10, 4);
        wrong("exit 6;exit 6", 7, 4);
        wrong("lay 0 1,  0 8", 0, 1);
        wrong("lay 0 1; shut 1", 9, 3);
        wrong("lay 0 1; open 0", 9, 4);
        wrong("lay 0 1; open 1", 9, 3);
        wrong(" toll 8 1", 1, 1);
        wrong("toll 7 1", 0, 4);
    }

    private static void nothingStays() {
        Check.sentence("Of a wrong text nothing stays");
        GateLifter x = Texts.of("lay 0 1,1 2,2 3,3 1,1 5;exit 3;toll 2 7;root 1");
        x.lay(0, 2);
        x.text(3);
        String before = State.withoutWhyAndFault(x);
        String[] texts = {"root 2;exit 4;toll 2 9;lay 0 0;shut 1;open 1;x", "net 5;lay 0 1;root 9", "net 16;",
            "shut 0,1,2,9", "lay 2 0" + ",0 2".repeat(58), "exit 3", "lay 0 1, 8 8", "root 2;root 2",
            "net 16;lay 15 3,7 7,8 9,9 9,3 3,1 1;exit 15"};
        for (String text : texts) {
            Check.due("acts of '" + text + "'", Texts.tell(x, text), -1);
            Check.due("all behind '" + text + "'", State.withoutWhyAndFault(x), before);
        }
        Check.due("what is remembered may still be taken back", x.undo(), 0);
        Check.due("arcs then", x.count(3), 5);
    }

    private static void latestText() {
        Check.sentence("The first wrong byte of the latest text that was read; NONE without one, and ahead of any");
        GateLifter x = new GateLifter();
        Check.due("ahead of any", x.fault(), -1);
        Texts.put(x, "exit?");
        Check.due("not read yet", x.fault(), -1);
        Check.due("acts", Texts.acts(x), -1);
        Check.due("wrong", x.fault(), 4);
        Texts.put(x, "exit 6");
        Check.due("the next one is not read yet", x.fault(), 4);
        x.lay(0, 1);
        Check.dueThrow("undo twice", IllegalStateException.class, () -> x.undo() + x.undo());
        x.net(5);
        Check.due("acts by calls do not change it", x.fault(), 4);
        Check.due("acts", Texts.tell(x, "exit 3"), 1);
        Check.due("right", x.fault(), -1);
        Check.due("acts", Texts.tell(x, "  ;"), -1);
        Check.due("wrong again", x.fault(), 2);
        Check.due("acts of an empty tape", Texts.acts(x), 0);
        Check.due("an empty one was read, too", x.fault(), -1);
    }

    private static void whyOfTexts() {
        Check.sentence("of a text that was wrong by it, the number by which it was refused; 0 ... by a text that "
                + "was right and has an ACT (a text that is wrong otherwise, or has none, leaves WHY)");
        GateLifter x = new GateLifter();
        wrong(x, "lay 0 8", 0, 1);
        wrong(x, "x", 0, 1);
        wrong(x, "net 1", 4, 1);
        wrong(x, "exit 6;", 7, 1);
        right(x, "", 0);
        Check.due("why of none", x.why(), 1);
        right(x, "   ", 0);
        Check.due("why of blanks", x.why(), 1);
        right(x, "lay 0 1", 1);
        Check.due("why of a right one", x.why(), 0);
        right(x, "   ", 0);
        Check.due("why of blanks", x.why(), 0);
        wrong(x, "lay 0 1;shut 2", 8, 3);
        wrong(x, "lay 0 1" + ",0 1".repeat(59), 0, 2);
        wrong(x, "open 0", 0, 4);
        Check.dueThrow("a call that is refused", IllegalStateException.class, () -> x.shut(5));
        Check.due("why of it", x.why(), 3);
        wrong(x, "lay", 3, 3);
        right(x, "net 8", 1);
        Check.due("why of a right net", x.why(), 0);
    }

    private static void howMany() {
        Check.sentence("ACTS are told, and done: how many");
        right("", 0);
        right("net 2", 1);
        right("lay 0 1,0 1,0 1", 1);
        right("lay 0 1,0 1,0 1;shut 0,1;open 0", 3);
        Check.due("a right text with acts can be followed by one more", Texts.tell(right("exit 6", 1), "exit 5"), 1);
    }
}
