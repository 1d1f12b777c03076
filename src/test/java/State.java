/** All that can be asked of a lifter without a change, as one text. */
final class State {
    private State() {
    }

    static String of(GateLifter x) {
        StringBuilder all = new StringBuilder();
        all.append("why ").append(x.why()).append(" fault ").append(x.fault());
        return all.append(withoutWhyAndFault(x)).toString();
    }

    static String withoutWhyAndFault(GateLifter x) {
        StringBuilder all = new StringBuilder();
        all.append(" latest");
        for (int what = 0; what < 4; what++) {
            all.append(' ').append(x.latest(what));
        }
        all.append(" remembered ").append(x.count(14)).append(ofNet(x)).append(" written");
        for (int k = 0; k < 64; k++) {
            all.append(' ').append(x.octet(k));
        }
        return all.toString();
    }

    /** What the net answers, without what is remembered, written, or the latest act. */
    static String ofNet(GateLifter x) {
        StringBuilder all = new StringBuilder(" counts");
        for (int what = 0; what < 19; what++) {
            all.append(' ').append(what == 14 ? 0 : x.count(what));
        }
        for (int v = 0; v < x.count(0); v++) {
            all.append(" node");
            for (int what = 0; what < 22; what++) {
                all.append(' ').append(x.node(v, what));
            }
        }
        for (int i = 0; i < x.count(3); i++) {
            all.append(" arc");
            for (int what = 0; what < 5; what++) {
                all.append(' ').append(x.arc(i, what));
            }
        }
        return all.toString();
    }
}
