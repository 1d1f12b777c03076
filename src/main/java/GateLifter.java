import java.util.Arrays;
import java.util.NoSuchElementException;

/**
 * Gatekeepers of a net of arcs: who must be passed on each way from the root, the nearest of these
 * for each, and what changes in this as arcs come and go.
 */
public final class GateLifter {
    public static final int NONE = -1;

    private static final int FIRST_NODES = 8;
    private static final int LEAST_NODES = 2;
    private static final int MOST_NODES = 16;
    private static final int MOST_ARCS = 60;
    private static final int MOST_TOLL = 99;
    private static final int MOST_ACTS = 14;
    private static final int MOST_REMEMBERED = 8;
    private static final int MOST_TAPE = 400;
    private static final int FED_AT_ONCE = 20;
    private static final int MOST_WRITTEN = 64;
    private static final int HARD_OF_ROOT = 99;
    private static final int BLANK = 32;

    private static final int DONE = 0;
    private static final int NO_SUCH_NODE = 1;
    private static final int TOO_MANY_ARCS = 2;
    private static final int NO_SUCH_ARC = 3;
    private static final int SO_ALREADY = 4;

    private static final int NET = 0;
    private static final int ROOT = 1;
    private static final int EXIT = 2;
    private static final int LAY = 3;
    private static final int SHUT = 4;
    private static final int OPEN = 5;
    private static final int TOLL = 6;

    private static final int KIND_SHUT = 0;
    private static final int KIND_UNREACHED = 1;
    private static final int KIND_BACK = 2;
    private static final int KIND_KEEPER = 3;
    private static final int KIND_ELSE = 4;

    private final Bytes tape;
    private final Bytes written;
    private final Reader reader;
    private final Net now;
    private final Net aside;
    private final Net imaged;
    private final Memory memory;
    private final Study study;
    private final Change latest;
    private boolean hasImage;
    private int fault;
    private int why;

    public GateLifter() {
        tape = new Bytes(MOST_TAPE);
        written = new Bytes(MOST_WRITTEN);
        reader = new Reader(tape);
        now = new Net();
        aside = new Net();
        imaged = new Net();
        memory = new Memory();
        latest = new Change();
        study = new Study(now);
        study.renew(latest);
        latest.clear();
        fault = NONE;
        why = DONE;
    }

    // ---- the tape and its texts

    public int feed(int a, int b, int c, int d, int e) {
        if (tape.length > MOST_TAPE - FED_AT_ONCE) {
            return NONE;
        }
        tape.addNumber(a);
        tape.addNumber(b);
        tape.addNumber(c);
        tape.addNumber(d);
        tape.addNumber(e);
        return tape.length;
    }

    public boolean end(int n) {
        if (n < 0 || n > tape.length) {
            return false;
        }
        tape.length = n;
        return true;
    }

    public int acts() throws IllegalArgumentException {
        aside.copy(now);
        int done = doText();
        tape.length = 0;
        if (done == NONE) {
            now.copy(aside);
            throw new IllegalArgumentException("the text is wrong");
        }
        settle();
        if (done > 0) {
            why = DONE;
        }
        return done;
    }

    /** Does the text on the tape act by act: how many, or NONE where it is wrong. */
    private int doText() {
        fault = NONE;
        reader.rewind();
        if (reader.isAtEnd()) {
            return 0;
        }
        for (int done = 0; done < MOST_ACTS; done++) {
            int kind = reader.readAct();
            if (kind == NONE) {
                fault = reader.wrong;
                return NONE;
            }
            int refused = doTold(kind);
            if (refused != DONE) {
                why = refused;
                fault = reader.word;
                return NONE;
            }
            if (reader.isAtEnd()) {
                return done + 1;
            }
            if (!reader.take(';')) {
                fault = reader.next();
                return NONE;
            }
        }
        fault = reader.next();
        return NONE;
    }

    /** Does one by one what the act that was read tells: the number by which it is refused, or DONE. */
    private int doTold(int kind) {
        int width = reader.width(kind);
        for (int i = 0; i < reader.tolds && i < MOST_TAPE; i += width) {
            int a = at(reader.told, i);
            int b = at(reader.told, i + 1);
            int refused = now.refusal(kind, a, b);
            if (refused != DONE) {
                return refused;
            }
            now.perform(kind, a, b);
        }
        return DONE;
    }

    public int fault() {
        return fault;
    }

    public int why() {
        return why;
    }

    // ---- acts by calls

    public void net(int nodes) throws IllegalArgumentException {
        if (nodes < LEAST_NODES || nodes > MOST_NODES) {
            throw new IllegalArgumentException("there cannot be so many nodes");
        }
        now.reset(nodes);
        settle();
        why = DONE;
    }

    /** After what cannot be taken back: nothing is remembered, and there is no latest act. */
    private void settle() {
        memory.count = 0;
        study.renew(latest);
        latest.clear();
    }

    public int tell(int node, boolean exit) throws IllegalStateException {
        int was = exit ? now.exit : now.root;
        if (!isDone(exit ? EXIT : ROOT, node, 0)) {
            throw new IllegalStateException("refused");
        }
        return was;
    }

    public int lay(int from, int to) throws IllegalStateException {
        if (!isDone(LAY, from, to)) {
            throw new IllegalStateException("refused");
        }
        return now.arcs - 1;
    }

    public int shut(int arc) throws IllegalStateException {
        if (!isDone(SHUT, arc, 0)) {
            throw new IllegalStateException("refused");
        }
        return Integer.bitCount(latest.lost);
    }

    public int open(int arc) throws IllegalStateException {
        if (!isDone(OPEN, arc, 0)) {
            throw new IllegalStateException("refused");
        }
        return Integer.bitCount(latest.gained);
    }

    public int toll(int node, int toll) throws IllegalArgumentException, IllegalStateException {
        if (toll < 0 || toll > MOST_TOLL) {
            throw new IllegalArgumentException("it is no toll");
        }
        int was = at(now.tolls, node);
        if (!isDone(TOLL, node, toll)) {
            throw new IllegalStateException("refused");
        }
        return was;
    }

    /** Does an act, unless it is refused. */
    private boolean isDone(int kind, int a, int b) {
        why = now.refusal(kind, a, b);
        if (why != DONE) {
            return false;
        }
        memory.push(now);
        now.perform(kind, a, b);
        study.renew(latest);
        return true;
    }

    public int undo() throws IllegalStateException {
        if (memory.count == 0) {
            throw new IllegalStateException("nothing is remembered");
        }
        memory.pop(now);
        study.renew(latest);
        latest.clear();
        return memory.count;
    }

    public int latest(int what) throws NoSuchElementException {
        switch (what) {
            case 0: return latest.gained;
            case 1: return latest.lost;
            case 2: return latest.moved;
            case 3: return latest.lift;
            default: throw new NoSuchElementException("there is no such what");
        }
    }

    // ---- questions about nodes

    public int node(int node, int what) throws IndexOutOfBoundsException, NoSuchElementException {
        if (!now.hasNode(node)) {
            throw new IndexOutOfBoundsException("there is no such node");
        }
        switch (what) {
            case 0: return study.isReached(node) ? 1 : 0;
            case 1: return at(study.facts.keeper, node);
            case 2: return study.facts.depth(node);
            case 3: return at(study.facts.gates, node);
            case 4: return at(study.facts.kept, node);
            case 5: return study.keptNearest(node);
            case 6: return study.edge(node);
            case 7: return study.body(node);
            case 8: return study.nest(node);
            case 9: return study.near(node);
            case 10: return study.outKeeper(node);
            case 11: return study.outGates(node);
            case 12: return study.hard(node);
            case 13: return study.wall(node);
            case 14: return at(now.tolls, node);
            case 15: return study.fee(node);
            case 16: return study.fare(node);
            case 17: return study.controls(node);
            case 18: return study.ring(node);
            case 19: return study.inner(node);
            case 20: return study.outer(node);
            case 21: return study.tied(node);
            default: throw new NoSuchElementException("there is no such what");
        }
    }

    public boolean keeps(int node, int other) throws IndexOutOfBoundsException {
        if (!now.hasNode(node) || !now.hasNode(other)) {
            throw new IndexOutOfBoundsException("there is no such node");
        }
        return has(at(study.facts.kept, node), other);
    }

    public int common(int node, int other) throws IndexOutOfBoundsException {
        if (!now.hasNode(node) || !now.hasNode(other)) {
            throw new IndexOutOfBoundsException("there is no such node");
        }
        return study.facts.deepest(study.upTo(node) & study.upTo(other));
    }

    public int walk(int k) {
        return study.walked(k);
    }

    public int without(int node) throws IndexOutOfBoundsException {
        if (!now.hasNode(node)) {
            throw new IndexOutOfBoundsException("there is no such node");
        }
        return at(study.facts.kept, node);
    }

    public int seal(int set) throws IllegalArgumentException {
        if ((set & ~now.all()) != 0) {
            throw new IllegalArgumentException("there is no such node");
        }
        return study.sealed(set);
    }

    public int chain(int node, int k) throws IndexOutOfBoundsException {
        if (!now.hasNode(node)) {
            throw new IndexOutOfBoundsException("there is no such node");
        }
        return study.link(node, k);
    }

    public int level(int depth) {
        return study.atDepth(depth);
    }

    public int via(int from, int to) throws IndexOutOfBoundsException {
        if (!now.hasNode(from) || !now.hasNode(to)) {
            throw new IndexOutOfBoundsException("there is no such node");
        }
        return study.between(from, to);
    }

    public int pass(int node, int k) throws IndexOutOfBoundsException {
        if (!now.hasNode(node)) {
            throw new IndexOutOfBoundsException("there is no such node");
        }
        return study.passed(node, k);
    }

    public int row(int k) {
        return study.inRow(k);
    }

    // ---- questions about arcs, also about ones that are not

    public int arc(int arc, int what) throws IndexOutOfBoundsException, NoSuchElementException {
        if (!now.hasArc(arc)) {
            throw new IndexOutOfBoundsException("there is no such arc");
        }
        switch (what) {
            case 0: return at(now.from, arc);
            case 1: return at(now.to, arc);
            case 2: return now.isOpen(arc) ? 1 : 0;
            case 3: return study.kind(arc);
            case 4: return study.isBridge(arc) ? 1 : 0;
            default: throw new NoSuchElementException("there is no such what");
        }
    }

    public int fall(int arc, int what)
            throws IndexOutOfBoundsException, NoSuchElementException, IllegalStateException {
        if (!now.hasArc(arc)) {
            throw new IndexOutOfBoundsException("there is no such arc");
        }
        if (what < 0 || what > 2) {
            throw new NoSuchElementException("there is no such what");
        }
        if (!now.isOpen(arc)) {
            throw new IllegalStateException("it is shut");
        }
        Change change = study.ifShut(arc);
        return what == 0 ? change.lost : what == 1 ? change.moved : change.lift;
    }

    public int worst(int what) throws NoSuchElementException {
        if (what != 0 && what != 1) {
            throw new NoSuchElementException("there is no such what");
        }
        int worst = study.worstArc();
        if (what == 0) {
            return worst;
        }
        return Integer.bitCount(study.lostBy(worst));
    }

    public int would(int from, int to, int what) throws IndexOutOfBoundsException, NoSuchElementException {
        if (!now.hasNode(from) || !now.hasNode(to)) {
            throw new IndexOutOfBoundsException("there is no such node");
        }
        if (what < 0 || what > 2) {
            throw new NoSuchElementException("there is no such what");
        }
        Change change = study.ifLaid(from, to);
        return what == 0 ? change.gained : what == 1 ? change.moved : change.lift;
    }

    public int best(int what) throws NoSuchElementException {
        if (what < 0 || what > 2) {
            throw new NoSuchElementException("there is no such what");
        }
        int best = study.bestPair();
        if (best == NONE) {
            return what == 2 ? 0 : NONE;
        }
        return what == 0 ? best / MOST_NODES : what == 1 ? best % MOST_NODES : at(study.lifts, best);
    }

    // ---- what is written, the image, counts

    public int text(int node) throws IndexOutOfBoundsException {
        if (!now.hasNode(node)) {
            throw new IndexOutOfBoundsException("there is no such node");
        }
        written.length = 0;
        int depth = study.facts.depth(node);
        for (int k = 0; k <= depth && k < MOST_NODES; k++) {
            if (k > 0) {
                written.add(BLANK);
            }
            written.addDecimal(study.link(node, k));
        }
        return written.length;
    }

    public int octet(int k) {
        return written.get(k);
    }

    public void image() {
        imaged.copy(now);
        hasImage = true;
    }

    public boolean back() {
        if (!hasImage) {
            return false;
        }
        now.copy(imaged);
        settle();
        return true;
    }

    public int count(int what) {
        switch (what) {
            case 0: return now.nodes;
            case 1: return now.root;
            case 2: return now.exit;
            case 3: return now.arcs;
            case 4: return Long.bitCount(now.open);
            case 5: return study.facts.reached;
            case 6: return study.facts.deepestDepth();
            case 7: return study.heads();
            case 8: return study.backArcs();
            case 9: return study.bridges();
            case 10: return study.isSound() ? 1 : 0;
            case 11: return study.facts.allDepths();
            case 12: return study.keepNone();
            case 13: return study.mostNest();
            case 14: return memory.count;
            case 15: return study.spans();
            case 16: return study.rings();
            case 17: return study.tollsOf(study.facts.reached);
            case 18: return study.spareArcs();
            default: return NONE;
        }
    }

    // ---- rows and sets

    private static int at(int[] row, int i) {
        return i >= 0 && i < row.length ? row[i] : 0;
    }

    private static void put(int[] row, int i, int value) {
        if (i >= 0 && i < row.length) {
            row[i] = value;
        }
    }

    private static void copyRow(int[] from, int[] to) {
        System.arraycopy(from, 0, to, 0, Math.min(from.length, to.length));
    }

    /** The set of one alone. */
    private static int only(int node) {
        return 1 << node;
    }

    private static boolean has(int set, int node) {
        return (set >>> node & 1) != 0;
    }

    /** The least number in a set that is not empty. */
    private static int least(int set) {
        return Integer.bitCount((set & -set) - 1);
    }

    private static int withoutLeast(int set) {
        return set & (set - 1);
    }

    /** Where ways go from some nodes (these too), none of the barred ones being on them. */
    private static int spread(int[] next, int from, int barred) {
        int seen = from & ~barred;
        int todo = seen;
        for (int i = 0; i < MOST_NODES && todo != 0; i++) {
            int fresh = at(next, least(todo)) & ~seen & ~barred;
            seen |= fresh;
            todo = withoutLeast(todo) | fresh;
        }
        return seen;
    }

    /** Bytes one behind another, up to a bound. */
    private static final class Bytes {
        private final int[] cells;
        private int length;

        Bytes(int most) {
            cells = new int[Math.max(0, most)];
        }

        void add(int octet) {
            if (length >= 0 && length < cells.length) {
                cells[length] = octet & 255;
                length++;
            }
        }

        void addNumber(int number) {
            add(number >>> 24);
            add(number >>> 16);
            add(number >>> 8);
            add(number);
        }

        void addDecimal(int number) {
            if (number >= 10) {
                add('0' + number / 10 % 10);
            }
            add('0' + number % 10);
        }

        int get(int k) {
            return k >= 0 && k < length && k < cells.length ? cells[k] : NONE;
        }
    }

    /** Reads acts from bytes. */
    private static final class Reader {
        private final Bytes bytes;
        private final int[] told = new int[MOST_TAPE];
        private int tolds;
        private int place;
        private int word;
        private int wrong;

        Reader(Bytes bytes) {
            this.bytes = bytes;
        }

        void rewind() {
            place = 0;
        }

        /** Where the next thing begins that is no blank, or the length. */
        int next() {
            for (int i = 0; i < MOST_TAPE && bytes.get(place) == BLANK; i++) {
                place++;
            }
            return place;
        }

        boolean isAtEnd() {
            return next() >= bytes.length;
        }

        /** Goes over a sign, if it comes next. */
        boolean take(int sign) {
            if (bytes.get(next()) != sign) {
                return false;
            }
            place++;
            return true;
        }

        /** Reads an act whole: its kind; NONE, and where it is wrong. */
        int readAct() {
            word = next();
            tolds = 0;
            int kind = readWord();
            if (kind == NONE) {
                wrong = word;
                return NONE;
            }
            for (int i = 0; i < MOST_TAPE; i++) {
                if (!readTold(kind)) {
                    return NONE;
                }
                if (!isRepeated(kind) || !take(',')) {
                    break;
                }
            }
            return kind;
        }

        private int readWord() {
            int begin = place;
            for (int i = 0; i < MOST_TAPE && isLetter(bytes.get(place)); i++) {
                place++;
            }
            if (isSpelt(begin, "net")) {
                return NET;
            }
            if (isSpelt(begin, "root")) {
                return ROOT;
            }
            if (isSpelt(begin, "exit")) {
                return EXIT;
            }
            if (isSpelt(begin, "lay")) {
                return LAY;
            }
            if (isSpelt(begin, "shut")) {
                return SHUT;
            }
            if (isSpelt(begin, "open")) {
                return OPEN;
            }
            return isSpelt(begin, "toll") ? TOLL : NONE;
        }

        private boolean isSpelt(int begin, String name) {
            if (place - begin != name.length()) {
                return false;
            }
            for (int i = 0; i < name.length(); i++) {
                if (bytes.get(begin + i) != name.charAt(i)) {
                    return false;
                }
            }
            return true;
        }

        /** Reads what an act tells once. */
        private boolean readTold(int kind) {
            switch (kind) {
                case NET: return readNumber(LEAST_NODES, MOST_NODES);
                case ROOT:
                case EXIT: return readNumber(0, MOST_NODES - 1);
                case LAY: return readNumber(0, MOST_NODES - 1) && readNumber(0, MOST_NODES - 1);
                case TOLL: return readNumber(0, MOST_NODES - 1) && readNumber(0, MOST_TOLL);
                default: return readNumber(0, MOST_ARCS - 1);
            }
        }

        private boolean readNumber(int low, int high) {
            int begin = next();
            int value = 0;
            int digits = 0;
            for (int i = 0; i < MOST_TAPE && isDigit(bytes.get(place)); i++) {
                // a third digit is wrong, whatever comes behind it
                if (digits < 3) {
                    value = value * 10 + bytes.get(place) - '0';
                    digits++;
                }
                place++;
            }
            if (digits < 1 || digits > 2 || value < low || value > high) {
                wrong = begin;
                return false;
            }
            put(told, tolds, value);
            tolds++;
            return true;
        }

        int width(int kind) {
            return kind == LAY || kind == TOLL ? 2 : 1;
        }

        private static boolean isRepeated(int kind) {
            return kind == LAY || kind == SHUT || kind == OPEN;
        }

        private static boolean isLetter(int sign) {
            return sign >= 'a' && sign <= 'z';
        }

        private static boolean isDigit(int sign) {
            return sign >= '0' && sign <= '9';
        }
    }

    /** The nodes, the arcs, and what an act does to them. */
    private static final class Net {
        private final int[] from = new int[MOST_ARCS];
        private final int[] to = new int[MOST_ARCS];
        private final int[] tolls = new int[MOST_NODES];
        private int nodes;
        private int root;
        private int exit;
        private int arcs;
        private long open;

        Net() {
            reset(FIRST_NODES);
        }

        void reset(int count) {
            nodes = count;
            root = 0;
            exit = count - 1;
            arcs = 0;
            open = 0;
            Arrays.fill(tolls, 1);
        }

        void copy(Net other) {
            copyRow(other.from, from);
            copyRow(other.to, to);
            copyRow(other.tolls, tolls);
            nodes = other.nodes;
            root = other.root;
            exit = other.exit;
            arcs = other.arcs;
            open = other.open;
        }

        boolean hasNode(int node) {
            return node >= 0 && node < nodes;
        }

        boolean hasArc(int arc) {
            return arc >= 0 && arc < arcs;
        }

        boolean isOpen(int arc) {
            return hasArc(arc) && (open >>> arc & 1) != 0;
        }

        int all() {
            return only(nodes) - 1;
        }

        /** The number by which an act would be refused, or DONE. */
        int refusal(int kind, int a, int b) {
            switch (kind) {
                case ROOT: return refusalOfNode(a, root == a);
                case EXIT: return refusalOfNode(a, exit == a);
                case LAY:
                    if (!hasNode(a) || !hasNode(b)) {
                        return NO_SUCH_NODE;
                    }
                    return arcs >= MOST_ARCS ? TOO_MANY_ARCS : DONE;
                case SHUT: return refusalOfArc(a, false);
                case OPEN: return refusalOfArc(a, true);
                case TOLL: return refusalOfNode(a, at(tolls, a) == b);
                default: return DONE;
            }
        }

        private int refusalOfNode(int node, boolean already) {
            if (!hasNode(node)) {
                return NO_SUCH_NODE;
            }
            return already ? SO_ALREADY : DONE;
        }

        private int refusalOfArc(int arc, boolean opened) {
            if (!hasArc(arc)) {
                return NO_SUCH_ARC;
            }
            return isOpen(arc) == opened ? SO_ALREADY : DONE;
        }

        /** Does an act that is not refused. */
        void perform(int kind, int a, int b) {
            switch (kind) {
                case NET: reset(a); break;
                case ROOT: root = a; break;
                case EXIT: exit = a; break;
                case LAY: addArc(a, b); break;
                case SHUT: open &= ~(1L << a); break;
                case OPEN: open |= 1L << a; break;
                case TOLL: put(tolls, a, b); break;
                default: break;
            }
        }

        private void addArc(int a, int b) {
            put(from, arcs, a);
            put(to, arcs, b);
            open |= 1L << arcs;
            arcs++;
        }

        /** For each node the set of those to which open arcs go from it, one arc left out (or NONE). */
        void fill(int[] next, int leftOut) {
            Arrays.fill(next, 0);
            for (int i = 0; i < arcs && i < MOST_ARCS; i++) {
                if (i != leftOut && isOpen(i)) {
                    int a = at(from, i);
                    put(next, a, at(next, a) | only(at(to, i)));
                }
            }
        }
    }

    /** The nets ahead of the latest acts. */
    private static final class Memory {
        private final Net[] nets = new Net[MOST_REMEMBERED];
        private int count;

        Memory() {
            for (int i = 0; i < nets.length; i++) {
                nets[i] = new Net();
            }
        }

        void push(Net net) {
            if (count >= nets.length) {
                forgetFirst();
            }
            if (count >= 0 && count < nets.length && nets[count] != null) {
                nets[count].copy(net);
                count++;
            }
        }

        private void forgetFirst() {
            if (nets.length > 0) {
                Net first = nets[0];
                for (int i = 1; i < nets.length; i++) {
                    nets[i - 1] = nets[i];
                }
                nets[nets.length - 1] = first;
                count = nets.length - 1;
            }
        }

        void pop(Net net) {
            int last = count - 1;
            if (last >= 0 && last < nets.length && nets[last] != null) {
                net.copy(nets[last]);
                count = last;
            }
        }
    }

    /** Who is reached from a start, and who is on each way there. */
    private static final class Gates {
        private final int[] next = new int[MOST_NODES];
        private final int[] gates = new int[MOST_NODES];
        private final int[] kept = new int[MOST_NODES];
        private final int[] keeper = new int[MOST_NODES];
        private int reached;

        /** Weighs the ways that next tells, from a start (a set of one, or of none). */
        void weigh(int start) {
            reached = spread(next, start, 0);
            Arrays.fill(gates, 0);
            for (int gate = 0; gate < MOST_NODES; gate++) {
                int lost = 0;
                if (has(reached, gate)) {
                    lost = reached & ~only(gate) & ~spread(next, start, only(gate));
                }
                put(kept, gate, lost);
                addGate(gate, lost);
            }
            for (int v = 0; v < MOST_NODES; v++) {
                put(keeper, v, deepest(at(gates, v)));
            }
        }

        private void addGate(int gate, int lost) {
            for (int v = 0; v < MOST_NODES && lost != 0; v++) {
                if (has(lost, v)) {
                    put(gates, v, at(gates, v) | only(gate));
                }
            }
        }

        int depth(int node) {
            return has(reached, node) ? Integer.bitCount(at(gates, node)) : NONE;
        }

        /** Of a set of reached nodes the one with the most gates; NONE of none. */
        int deepest(int set) {
            int found = NONE;
            int most = NONE;
            for (int v = 0; v < MOST_NODES && set != 0; v++) {
                int depth = Integer.bitCount(at(gates, v));
                if (has(set, v) && depth > most) {
                    most = depth;
                    found = v;
                }
            }
            return found;
        }

        int deepestDepth() {
            return Math.max(0, depth(deepest(reached)));
        }

        int allDepths() {
            int sum = 0;
            for (int v = 0; v < MOST_NODES; v++) {
                sum += Integer.bitCount(at(gates, v));
            }
            return sum;
        }
    }

    /** What differs between two weighings. */
    private static final class Change {
        private int gained;
        private int lost;
        private int moved;
        private int lift;

        void clear() {
            gained = 0;
            lost = 0;
            moved = 0;
            lift = 0;
        }

        void compare(Gates before, Gates after) {
            clear();
            gained = after.reached & ~before.reached;
            lost = before.reached & ~after.reached;
            for (int v = 0; v < MOST_NODES; v++) {
                if (has(before.reached & after.reached, v)) {
                    lift += before.depth(v) - after.depth(v);
                    if (at(before.keeper, v) != at(after.keeper, v)) {
                        moved |= only(v);
                    }
                }
            }
        }
    }

    /** The heads of loops, and their bodies. */
    private static final class Loops {
        private final int[] bodies = new int[MOST_NODES];
        private int heads;

        /** Rear tells for each node from which reached ones arcs go to it. */
        void weigh(Gates facts, int[] rear) {
            heads = 0;
            for (int v = 0; v < MOST_NODES; v++) {
                int tails = at(rear, v) & (at(facts.kept, v) | only(v));
                put(bodies, v, 0);
                if (tails != 0) {
                    heads |= only(v);
                    put(bodies, v, only(v) | spread(rear, tails, only(v)));
                }
            }
        }

        int holding(int node) {
            int count = 0;
            for (int head = 0; head < MOST_NODES; head++) {
                if (has(at(bodies, head), node)) {
                    count++;
                }
            }
            return count;
        }

        int size(int head) {
            return head == NONE ? 0 : Integer.bitCount(at(bodies, head));
        }

        /** Of heads whose body has a node the one of the smallest body above a size; NONE. */
        int smallest(int node, int above) {
            int found = NONE;
            for (int head = 0; head < MOST_NODES; head++) {
                boolean fits = has(at(bodies, head), node) && size(head) > above;
                if (fits && (found == NONE || size(head) < size(found))) {
                    found = head;
                }
            }
            return found;
        }
    }

    /** How many ways there are from one spot to another that share no room. */
    private static final class Flow {
        private static final int SPOTS = 2 * MOST_NODES;
        private final int[] rooms = new int[SPOTS * SPOTS];
        private final int[] roomy = new int[SPOTS];
        private final int[] parents = new int[SPOTS];

        void clear() {
            Arrays.fill(rooms, 0);
            Arrays.fill(roomy, 0);
        }

        /** Changes the room from a spot to another one. */
        void widen(int a, int b, int by) {
            int cell = a * SPOTS + b;
            put(rooms, cell, at(rooms, cell) + by);
            int others = at(roomy, a) & ~only(b);
            put(roomy, a, at(rooms, cell) > 0 ? others | only(b) : others);
        }

        int most(int source, int sink) {
            for (int found = 0; found < MOST_ARCS; found++) {
                if (!isFound(source, sink)) {
                    return found;
                }
                fillWay(source, sink);
            }
            return MOST_ARCS;
        }

        private boolean isFound(int source, int sink) {
            int seen = only(source);
            int todo = seen;
            for (int i = 0; i < SPOTS && todo != 0; i++) {
                int spot = least(todo);
                int fresh = at(roomy, spot) & ~seen;
                for (int s = 0; s < SPOTS && fresh != 0; s++) {
                    if (has(fresh, s)) {
                        put(parents, s, spot);
                    }
                }
                seen |= fresh;
                todo = withoutLeast(todo) | fresh;
            }
            return has(seen, sink);
        }

        private void fillWay(int source, int sink) {
            int spot = sink;
            for (int i = 0; i < SPOTS && spot != source; i++) {
                int parent = at(parents, spot);
                widen(parent, spot, -1);
                widen(spot, parent, 1);
                spot = parent;
            }
        }
    }

    /** Answers about a net. */
    private static final class Study {
        private final Net net;
        private final Gates out = new Gates();
        private final int[] rear = new int[MOST_NODES];
        private final int[] stack = new int[MOST_NODES];
        private final int[] fares = new int[MOST_NODES];
        private final int[] lifts = new int[MOST_NODES * MOST_NODES];
        private final Loops loops = new Loops();
        private final Flow flow = new Flow();
        private final Change guess = new Change();
        private Gates facts = new Gates();
        private Gates trial = new Gates();

        Study(Net net) {
            this.net = net;
        }

        /** Weighs the net anew, and tells what has changed. */
        void renew(Change change) {
            Gates before = facts;
            facts = trial;
            trial = before;
            net.fill(facts.next, NONE);
            facts.weigh(only(net.root));
            fillRear();
            change.compare(before, facts);
        }

        private void fillRear() {
            for (int v = 0; v < MOST_NODES; v++) {
                int set = 0;
                for (int u = 0; u < MOST_NODES; u++) {
                    if (isReached(u) && has(at(facts.next, u), v)) {
                        set |= only(u);
                    }
                }
                put(rear, v, set);
            }
        }

        boolean isReached(int node) {
            return has(facts.reached, node);
        }

        // -- gates

        int keptNearest(int node) {
            int set = 0;
            for (int v = 0; v < MOST_NODES; v++) {
                if (at(facts.keeper, v) == node) {
                    set |= only(v);
                }
            }
            return set;
        }

        int keepNone() {
            int set = 0;
            for (int v = 0; v < MOST_NODES; v++) {
                if (isReached(v) && at(facts.kept, v) == 0) {
                    set |= only(v);
                }
            }
            return set;
        }

        /** A reached node with its gates; none of one that is not reached. */
        int upTo(int node) {
            return isReached(node) ? at(facts.gates, node) | only(node) : 0;
        }

        int edge(int node) {
            if (!isReached(node)) {
                return 0;
            }
            int kept = at(facts.kept, node);
            return step(kept | only(node)) & ~kept;
        }

        /** To whom arcs go from some. */
        private int step(int set) {
            int to = 0;
            for (int v = 0; v < MOST_NODES; v++) {
                if (has(set, v)) {
                    to |= at(facts.next, v);
                }
            }
            return to;
        }

        int link(int node, int k) {
            for (int v = 0; v < MOST_NODES; v++) {
                if (has(upTo(node), v) && facts.depth(v) == k) {
                    return v;
                }
            }
            return NONE;
        }

        int atDepth(int depth) {
            int set = 0;
            for (int v = 0; v < MOST_NODES; v++) {
                if (isReached(v) && facts.depth(v) == depth) {
                    set |= only(v);
                }
            }
            return set;
        }

        int walked(int k) {
            put(stack, 0, net.root);
            int height = 1;
            for (int i = 0; i < MOST_NODES && height > 0; i++) {
                height--;
                int node = at(stack, height);
                if (i == k) {
                    return node;
                }
                // the least is put last, so that it comes off first
                for (int v = MOST_NODES - 1; v >= 0; v--) {
                    if (at(facts.keeper, v) == node) {
                        put(stack, height, v);
                        height++;
                    }
                }
            }
            return NONE;
        }

        int sealed(int set) {
            return facts.reached & ~set & ~spread(facts.next, only(net.root), set);
        }

        int between(int from, int to) {
            int reached = spread(facts.next, only(from), 0);
            if (!has(reached, to)) {
                return NONE;
            }
            int set = 0;
            int others = reached & ~only(from) & ~only(to);
            for (int v = 0; v < MOST_NODES; v++) {
                if (has(others, v) && !has(spread(facts.next, only(from), only(v)), to)) {
                    set |= only(v);
                }
            }
            return set;
        }

        // -- ways from the root

        int near(int node) {
            int front = only(net.root);
            int seen = front;
            for (int steps = 0; steps < MOST_NODES; steps++) {
                if (has(front, node)) {
                    return steps;
                }
                front = step(front) & ~seen;
                seen |= front;
            }
            return NONE;
        }

        int inRow(int k) {
            int front = only(net.root);
            int seen = front;
            int ahead = k;
            for (int steps = 0; steps < MOST_NODES && ahead >= 0; steps++) {
                for (int v = 0; v < MOST_NODES; v++) {
                    if (has(front, v)) {
                        if (ahead == 0) {
                            return v;
                        }
                        ahead--;
                    }
                }
                front = step(front) & ~seen;
                seen |= front;
            }
            return NONE;
        }

        int tollsOf(int set) {
            int sum = 0;
            for (int v = 0; v < MOST_NODES; v++) {
                if (has(set, v)) {
                    sum += at(net.tolls, v);
                }
            }
            return sum;
        }

        int fee(int node) {
            return isReached(node) ? tollsOf(upTo(node)) : NONE;
        }

        /** Settles reached nodes one by one, the cheapest first. */
        int fare(int node) {
            Arrays.fill(fares, NONE);
            put(fares, net.root, at(net.tolls, net.root));
            int unsettled = facts.reached;
            for (int i = 0; i < MOST_NODES; i++) {
                int cheapest = cheapest(unsettled);
                if (cheapest == NONE) {
                    break;
                }
                unsettled &= ~only(cheapest);
                payFrom(cheapest, unsettled);
            }
            return at(fares, node);
        }

        private int cheapest(int set) {
            int found = NONE;
            for (int v = 0; v < MOST_NODES; v++) {
                boolean known = has(set, v) && at(fares, v) != NONE;
                if (known && (found == NONE || at(fares, v) < at(fares, found))) {
                    found = v;
                }
            }
            return found;
        }

        private void payFrom(int node, int unsettled) {
            int open = at(facts.next, node) & unsettled;
            for (int v = 0; v < MOST_NODES; v++) {
                int fare = at(fares, node) + at(net.tolls, v);
                boolean better = at(fares, v) == NONE || fare < at(fares, v);
                if (has(open, v) && better) {
                    put(fares, v, fare);
                }
            }
        }

        int hard(int node) {
            if (node == net.root) {
                return HARD_OF_ROOT;
            }
            flow.clear();
            for (int i = 0; i < net.arcs && i < MOST_ARCS; i++) {
                if (net.isOpen(i)) {
                    flow.widen(at(net.from, i), at(net.to, i), 1);
                }
            }
            return flow.most(net.root, node);
        }

        /** Each node is two spots here, the one where ways come, the other where they go, with room for one. */
        int wall(int node) {
            if (node == net.root || has(at(facts.next, net.root), node)) {
                return NONE;
            }
            flow.clear();
            for (int v = 0; v < net.nodes && v < MOST_NODES; v++) {
                if (v != net.root && v != node) {
                    flow.widen(v, v + MOST_NODES, 1);
                }
                for (int to = 0; to < MOST_NODES; to++) {
                    if (to != v && has(at(facts.next, v), to)) {
                        flow.widen(v + MOST_NODES, to, 1);
                    }
                }
            }
            return flow.most(net.root + MOST_NODES, node);
        }

        // -- ways out, rings

        private void weighOut() {
            copyRow(rear, out.next);
            out.weigh(only(net.exit) & facts.reached);
        }

        int outKeeper(int node) {
            weighOut();
            return at(out.keeper, node);
        }

        int outGates(int node) {
            weighOut();
            return at(out.gates, node);
        }

        int controls(int node) {
            weighOut();
            if (!has(out.reached, node)) {
                return 0;
            }
            int set = 0;
            int ends = at(facts.next, node) & out.reached;
            for (int v = 0; v < MOST_NODES; v++) {
                if (has(ends, v)) {
                    set |= only(v) | at(out.gates, v);
                }
            }
            return set & ~at(out.gates, node);
        }

        int spans() {
            weighOut();
            int pairs = 0;
            for (int v = 0; v < MOST_NODES; v++) {
                pairs += Integer.bitCount(at(facts.kept, v) & at(out.gates, v));
            }
            return pairs;
        }

        int ring(int node) {
            if (!isReached(node)) {
                return 0;
            }
            return spread(facts.next, only(node), 0) & spread(rear, only(node), 0);
        }

        int rings() {
            int count = 0;
            int left = facts.reached;
            for (int i = 0; i < MOST_NODES && left != 0; i++) {
                left &= ~ring(least(left));
                count++;
            }
            return count;
        }

        // -- loops

        int heads() {
            loops.weigh(facts, rear);
            return loops.heads;
        }

        int body(int node) {
            loops.weigh(facts, rear);
            return at(loops.bodies, node);
        }

        int nest(int node) {
            loops.weigh(facts, rear);
            return loops.holding(node);
        }

        int mostNest() {
            loops.weigh(facts, rear);
            int most = 0;
            for (int v = 0; v < MOST_NODES; v++) {
                most = Math.max(most, loops.holding(v));
            }
            return most;
        }

        int inner(int node) {
            loops.weigh(facts, rear);
            return loops.smallest(node, 0);
        }

        int outer(int node) {
            int inner = inner(node);
            return inner == NONE ? NONE : loops.smallest(node, loops.size(inner));
        }

        /** Takes away who has no arc but back arcs to one that is left: on a circle nobody can be taken. */
        boolean isSound() {
            int left = facts.reached;
            for (int i = 0; i < MOST_NODES && left != 0; i++) {
                for (int v = 0; v < MOST_NODES; v++) {
                    if ((at(facts.next, v) & ~upTo(v) & left) == 0) {
                        left &= ~only(v);
                    }
                }
            }
            return left == 0;
        }

        // -- arcs

        int kind(int arc) {
            if (!net.isOpen(arc)) {
                return KIND_SHUT;
            }
            int from = at(net.from, arc);
            int to = at(net.to, arc);
            if (!isReached(from)) {
                return KIND_UNREACHED;
            }
            if (from == to || has(at(facts.gates, from), to)) {
                return KIND_BACK;
            }
            return at(facts.keeper, to) == from ? KIND_KEEPER : KIND_ELSE;
        }

        int backArcs() {
            int count = 0;
            for (int i = 0; i < net.arcs && i < MOST_ARCS; i++) {
                if (kind(i) == KIND_BACK) {
                    count++;
                }
            }
            return count;
        }

        /** Who would be lost by the shut of an arc; nobody by one that is shut. */
        int lostBy(int arc) {
            // an arc that each way to its end uses begins at the nearest gate of its end
            if (kind(arc) != KIND_KEEPER) {
                return 0;
            }
            net.fill(trial.next, arc);
            return facts.reached & ~spread(trial.next, only(net.root), 0);
        }

        boolean isBridge(int arc) {
            return has(lostBy(arc), at(net.to, arc));
        }

        int bridges() {
            int count = 0;
            for (int i = 0; i < net.arcs && i < MOST_ARCS; i++) {
                if (isBridge(i)) {
                    count++;
                }
            }
            return count;
        }

        /** The k-th arc that is on each way to a node, or how many for NONE: each is the bridge to one of its chain. */
        int passed(int node, int k) {
            if (!isReached(node)) {
                return NONE;
            }
            int count = 0;
            for (int depth = 1; depth <= facts.depth(node) && depth < MOST_NODES; depth++) {
                int bridge = bridgeTo(link(node, depth));
                if (bridge != NONE) {
                    if (count == k) {
                        return bridge;
                    }
                    count++;
                }
            }
            return k == NONE ? count : NONE;
        }

        private int bridgeTo(int node) {
            for (int i = 0; i < net.arcs && i < MOST_ARCS; i++) {
                if (at(net.to, i) == node && isBridge(i)) {
                    return i;
                }
            }
            return NONE;
        }

        int worstArc() {
            int found = NONE;
            int most = 0;
            for (int i = 0; i < net.arcs && i < MOST_ARCS; i++) {
                int lost = Integer.bitCount(lostBy(i));
                if (lost > most) {
                    most = lost;
                    found = i;
                }
            }
            return found;
        }

        int tied(int node) {
            if (!isReached(node)) {
                return 0;
            }
            int set = facts.reached;
            for (int i = 0; i < net.arcs && i < MOST_ARCS; i++) {
                int lost = lostBy(i);
                set &= has(lost, node) ? lost : ~lost;
            }
            return set;
        }

        // -- what would be

        Change ifShut(int arc) {
            net.fill(trial.next, arc);
            trial.weigh(only(net.root));
            guess.compare(facts, trial);
            return guess;
        }

        Change ifLaid(int from, int to) {
            net.fill(trial.next, NONE);
            put(trial.next, from, at(trial.next, from) | only(to));
            trial.weigh(only(net.root));
            guess.compare(facts, trial);
            return guess;
        }

        int spareArcs() {
            int count = 0;
            for (int i = 0; i < net.arcs && i < MOST_ARCS; i++) {
                if (isSpare(i)) {
                    count++;
                }
            }
            return count;
        }

        private boolean isSpare(int arc) {
            int kind = kind(arc);
            if (kind == KIND_SHUT) {
                return false;
            }
            // no way needs a back arc, nor one that starts where no way comes
            if (kind == KIND_UNREACHED || kind == KIND_BACK) {
                return true;
            }
            Change change = ifShut(arc);
            return change.lost == 0 && change.moved == 0;
        }

        /** The two of the greatest lift, as one number; NONE if nobody would be lifted. */
        int bestPair() {
            Arrays.fill(lifts, 0);
            for (int gate = 0; gate < MOST_NODES; gate++) {
                if (isReached(gate)) {
                    addLifts(gate);
                }
            }
            int found = NONE;
            int most = 0;
            for (int i = 0; i < lifts.length; i++) {
                if (at(lifts, i) > most) {
                    most = at(lifts, i);
                    found = i;
                }
            }
            return found;
        }

        /** An arc lifts whom a gate keeps, if ways go to them from its end, past the gate, as they come to its begin. */
        private void addLifts(int gate) {
            int kept = at(facts.kept, gate);
            int past = facts.reached & ~kept & ~only(gate);
            for (int to = 0; to < net.nodes && to < MOST_NODES; to++) {
                boolean fits = to != gate && !has(past, to);
                int lifted = fits ? Integer.bitCount(spread(facts.next, only(to), only(gate)) & kept) : 0;
                for (int from = 0; from < MOST_NODES && lifted != 0; from++) {
                    if (has(past, from)) {
                        int pair = from * MOST_NODES + to;
                        put(lifts, pair, at(lifts, pair) + lifted);
                    }
                }
            }
        }
    }
}
