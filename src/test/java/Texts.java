/** Puts texts on a tape, and has them done. */
final class Texts {
    private Texts() {
    }

    /** A new lifter of which a right text is told. */
    static GateLifter of(String text) {
        GateLifter x = new GateLifter();
        put(x, text);
        x.acts();
        return x;
    }

    /** Feeds a text of up to 400 bytes, one for each character, onto a tape that is made empty ahead of it. */
    static void put(GateLifter lifter, String text) {
        lifter.end(0);
        for (int i = 0; i < text.length(); i += 20) {
            lifter.feed(number(text, i), number(text, i + 4), number(text, i + 8),
                    number(text, i + 12), number(text, i + 16));
        }
        lifter.end(text.length());
    }

    private static int number(String text, int begin) {
        int number = 0;
        for (int i = begin; i < begin + 4; i++) {
            number = number << 8 | (i < text.length() ? text.charAt(i) & 255 : 0);
        }
        return number;
    }

    /** How many acts the text on the tape tells; -1 where it is wrong. */
    static int acts(GateLifter x) {
        try {
            return x.acts();
        } catch (IllegalArgumentException e) {
            return -1;
        }
    }

    /** Tells a text: how many acts, or -1. */
    static int tell(GateLifter x, String text) {
        put(x, text);
        return acts(x);
    }
}
