import java.util.ArrayList;
import java.util.Arrays;
import java.util.Comparator;
import java.util.List;

/**
 * The net of the document, its terms written down as plainly as they stand there, to compare with.
 * Small nets are looked at way by way; for large ones (byWays false) things are taken out instead.
 * Answers are kept: a net is changed only ahead of the first question.
 */
final class SlowNet {
    static final int NONE = -1;

    final boolean byWays;
    int nodes;
    int root;
    int exit;
    int[] tolls;
    final List<int[]> arcs = new ArrayList<>();
    final List<Boolean> open = new ArrayList<>();
    private final List<List<Integer>>[][] known;
    private final Integer[][] onEachKnown = new Integer[16][16];
    private final Integer[] bodyKnown = new Integer[16];
    private Integer reachedKnown;
    private int[] sumsKnown;
    private final Integer[] lostKnown = new Integer[60];

    @SuppressWarnings({"unchecked", "rawtypes"})
    SlowNet(boolean byWays, int nodes) {
        this.byWays = byWays;
        this.nodes = nodes;
        exit = nodes - 1;
        tolls = new int[16];
        Arrays.fill(tolls, 1);
        known = new List[16][16];
    }

    SlowNet copy() {
        SlowNet net = new SlowNet(byWays, nodes);
        net.root = root;
        net.exit = exit;
        net.tolls = tolls.clone();
        net.arcs.addAll(arcs);
        net.open.addAll(open);
        return net;
    }

    SlowNet withOpen(int arc, boolean opened) {
        SlowNet net = copy();
        net.open.set(arc, opened);
        return net;
    }

    SlowNet withArc(int from, int to) {
        SlowNet net = copy();
        net.arcs.add(new int[] {from, to});
        net.open.add(true);
        return net;
    }

    private int from(int arc) {
        return arcs.get(arc)[0];
    }

    private int to(int arc) {
        return arcs.get(arc)[1];
    }

    static boolean in(int set, int node) {
        return (set >> node & 1) == 1;
    }

    // ---- ways

    /** All ways that come to no node twice, as rows of arcs. */
    private List<List<Integer>> ways(int a, int b) {
        if (known[a][b] == null) {
            known[a][b] = new ArrayList<>();
            follow(a, b, 1 << a, new ArrayList<>(), known[a][b]);
        }
        return known[a][b];
    }

    private void follow(int at, int b, int seen, List<Integer> way, List<List<Integer>> found) {
        if (at == b) {
            found.add(new ArrayList<>(way));
            return;
        }
        for (int i = 0; i < arcs.size(); i++) {
            if (open.get(i) && from(i) == at && !in(seen, to(i))) {
                way.add(i);
                follow(to(i), b, seen | 1 << to(i), way, found);
                way.remove(way.size() - 1);
            }
        }
    }

    private int nodesOf(List<Integer> way, int begin) {
        int set = 1 << begin;
        for (int arc : way) {
            set |= 1 << to(arc);
        }
        return set;
    }

    /** Whether a way goes that uses no barred node and no barred arc. */
    boolean goes(int a, int b, int barredNodes, long barredArcs) {
        int seen = 1 << a & ~barredNodes;
        for (boolean more = true; more;) {
            more = false;
            for (int i = 0; i < arcs.size(); i++) {
                boolean free = open.get(i) && (barredArcs >> i & 1) == 0 && !in(barredNodes, to(i));
                if (free && in(seen, from(i)) && !in(seen, to(i))) {
                    seen |= 1 << to(i);
                    more = true;
                }
            }
        }
        return in(seen, b);
    }

    boolean leads(int a, int b) {
        return byWays ? !ways(a, b).isEmpty() : goes(a, b, 0, 0);
    }

    /** All nodes, both ends too, on each way. */
    int onEach(int a, int b) {
        if (onEachKnown[a][b] == null) {
            onEachKnown[a][b] = findOnEach(a, b);
        }
        return onEachKnown[a][b];
    }

    private int findOnEach(int a, int b) {
        int set = 0;
        for (int g = 0; g < nodes; g++) {
            if (byWays ? isOnEach(a, b, g) : g == a || g == b || !goes(a, b, 1 << g, 0)) {
                set |= 1 << g;
            }
        }
        return set;
    }

    private boolean isOnEach(int a, int b, int g) {
        for (List<Integer> way : ways(a, b)) {
            if (!in(nodesOf(way, a), g)) {
                return false;
            }
        }
        return true;
    }

    // ---- gates

    boolean reached(int v) {
        return in(reachedSet(), v);
    }

    int reachedSet() {
        if (reachedKnown == null) {
            int set = 0;
            for (int v = 0; v < nodes; v++) {
                set |= leads(root, v) ? 1 << v : 0;
            }
            reachedKnown = set;
        }
        return reachedKnown;
    }

    int gates(int v) {
        return reached(v) ? onEach(root, v) & ~(1 << v) : 0;
    }

    int keeper(int v) {
        int gates = gates(v);
        for (int g = 0; g < nodes; g++) {
            if (in(gates, g) && (gates & ~(1 << g)) == gates(g)) {
                return g;
            }
        }
        return NONE;
    }

    int depth(int v) {
        return reached(v) ? Integer.bitCount(gates(v)) : NONE;
    }

    boolean keeps(int a, int b) {
        return in(gates(b), a);
    }

    int kept(int v) {
        int set = 0;
        for (int w = 0; w < nodes; w++) {
            set |= keeps(v, w) ? 1 << w : 0;
        }
        return set;
    }

    int keptNearest(int v) {
        int set = 0;
        for (int w = 0; w < nodes; w++) {
            set |= keeper(w) == v ? 1 << w : 0;
        }
        return set;
    }

    int common(int a, int b) {
        int found = NONE;
        for (int c = 0; c < nodes && reached(a) && reached(b); c++) {
            boolean fits = (c == a || keeps(c, a)) && (c == b || keeps(c, b));
            if (fits && (found == NONE || depth(c) > depth(found))) {
                found = c;
            }
        }
        return found;
    }

    List<Integer> walk() {
        List<Integer> row = new ArrayList<>();
        walkFrom(root, row);
        return row;
    }

    private void walkFrom(int v, List<Integer> row) {
        row.add(v);
        for (int w = 0; w < nodes; w++) {
            if (keeper(w) == v) {
                walkFrom(w, row);
            }
        }
    }

    int edge(int v) {
        int set = 0;
        for (int i = 0; i < arcs.size(); i++) {
            boolean begins = from(i) == v || keeps(v, from(i));
            if (reached(v) && open.get(i) && begins && !keeps(v, to(i))) {
                set |= 1 << to(i);
            }
        }
        return set;
    }

    List<Integer> chain(int v) {
        List<Integer> row = new ArrayList<>();
        for (int g = 0; g < nodes; g++) {
            if (reached(v) && (g == v || keeps(g, v))) {
                row.add(g);
            }
        }
        row.sort(Comparator.comparingInt(this::depth));
        return row;
    }

    int level(int depth) {
        int set = 0;
        for (int v = 0; v < nodes; v++) {
            set |= reached(v) && depth(v) == depth ? 1 << v : 0;
        }
        return set;
    }

    int sealed(int set) {
        int lost = 0;
        for (int v = 0; v < nodes; v++) {
            boolean goes = false;
            if (byWays) {
                for (List<Integer> way : ways(root, v)) {
                    goes |= (nodesOf(way, root) & set) == 0;
                }
            } else {
                goes = goes(root, v, set, 0);
            }
            lost |= reached(v) && !in(set, v) && !goes ? 1 << v : 0;
        }
        return lost;
    }

    int via(int a, int b) {
        return leads(a, b) ? onEach(a, b) & ~(1 << a) & ~(1 << b) : NONE;
    }

    // ---- loops

    boolean isBack(int i) {
        return open.get(i) && reached(from(i)) && (from(i) == to(i) || keeps(to(i), from(i)));
    }

    int body(int head) {
        if (bodyKnown[head] == null) {
            bodyKnown[head] = findBody(head);
        }
        return bodyKnown[head];
    }

    private int findBody(int head) {
        int set = 0;
        for (int i = 0; i < arcs.size(); i++) {
            if (isBack(i) && to(i) == head) {
                set |= 1 << head;
                for (int v = 0; v < nodes; v++) {
                    set |= reached(v) && leadsPast(v, from(i), head) ? 1 << v : 0;
                }
            }
        }
        return set;
    }

    private boolean leadsPast(int a, int b, int head) {
        if (!byWays) {
            return goes(a, b, 1 << head, 0);
        }
        for (List<Integer> way : ways(a, b)) {
            if (!in(nodesOf(way, a), head)) {
                return true;
            }
        }
        return false;
    }

    int heads() {
        int set = 0;
        for (int v = 0; v < nodes; v++) {
            set |= body(v) != 0 ? 1 << v : 0;
        }
        return set;
    }

    int nest(int v) {
        int count = 0;
        for (int h = 0; h < nodes; h++) {
            count += in(body(h), v) ? 1 : 0;
        }
        return count;
    }

    int inner(int v) {
        return smallest(v, 0);
    }

    int outer(int v) {
        return inner(v) == NONE ? NONE : smallest(v, Integer.bitCount(body(inner(v))));
    }

    private int smallest(int v, int above) {
        int found = NONE;
        int size = 99;
        for (int h = 0; h < nodes; h++) {
            int body = body(h);
            if (in(body, v) && Integer.bitCount(body) > above && Integer.bitCount(body) < size) {
                found = h;
                size = Integer.bitCount(body);
            }
        }
        return found;
    }

    boolean sound() {
        SlowNet rest = copy();
        for (int i = 0; i < arcs.size(); i++) {
            rest.open.set(i, open.get(i) && reached(from(i)) && !isBack(i));
        }
        for (int i = 0; i < arcs.size(); i++) {
            if (rest.open.get(i) && rest.leads(to(i), from(i))) {
                return false;
            }
        }
        return true;
    }

    // ---- near, out, cuts, tolls

    int near(int v) {
        if (byWays) {
            return ways(root, v).stream().mapToInt(List::size).min().orElse(NONE);
        }
        int[] steps = new int[nodes];
        Arrays.fill(steps, 99);
        steps[root] = 0;
        for (int k = 0; k < nodes; k++) {
            for (int i = 0; i < arcs.size(); i++) {
                if (open.get(i)) {
                    steps[to(i)] = Math.min(steps[to(i)], steps[from(i)] + 1);
                }
            }
        }
        return steps[v] >= 99 ? NONE : steps[v];
    }

    List<Integer> row() {
        List<Integer> row = new ArrayList<>();
        for (int v = 0; v < nodes; v++) {
            if (reached(v)) {
                row.add(v);
            }
        }
        row.sort(Comparator.comparingInt(this::near));
        return row;
    }

    boolean isOut(int v) {
        return reached(v) && leads(v, exit);
    }

    int outGates(int v) {
        return isOut(v) ? onEach(v, exit) & ~(1 << v) : 0;
    }

    int outKeeper(int v) {
        int gates = outGates(v);
        for (int g = 0; g < nodes; g++) {
            if (in(gates, g) && (byWays ? comesFirst(v, g, gates) : (gates & ~(1 << g)) == outGates(g))) {
                return g;
            }
        }
        return NONE;
    }

    private boolean comesFirst(int v, int g, int gates) {
        for (List<Integer> way : ways(v, exit)) {
            for (int arc : way) {
                if (in(gates, to(arc))) {
                    if (to(arc) != g) {
                        return false;
                    }
                    break;
                }
            }
        }
        return true;
    }

    int lostBy(int i) {
        if (lostKnown[i] == null) {
            lostKnown[i] = open.get(i) ? reachedSet() & ~withOpen(i, false).reachedSet() : 0;
        }
        return lostKnown[i];
    }

    boolean isBridge(int i) {
        return in(lostBy(i), to(i));
    }

    List<Integer> pass(int v) {
        List<Integer> row = new ArrayList<>();
        if (byWays) {
            row.addAll(ways(root, v).get(0));
            for (List<Integer> way : ways(root, v)) {
                row.retainAll(way);
            }
            return row;
        }
        for (int i = 0; i < arcs.size(); i++) {
            if (v != root && !goes(root, v, 0, 1L << i)) {
                row.add(i);
            }
        }
        // of two the one that comes first is still come to without the other
        row.sort((a, b) -> a.equals(b) ? 0 : goes(root, from(a), 0, 1L << b) ? -1 : 1);
        return row;
    }

    int hard(int v) {
        if (v == root) {
            return 99;
        }
        if (!byWays) {
            return flow(v);
        }
        int least = 99;
        for (long set = 0; set < 1L << arcs.size(); set++) {
            if (Long.bitCount(set) < least && !goes(root, v, 0, set)) {
                least = Long.bitCount(set);
            }
        }
        return least;
    }

    /** Ways that share no arc, found one by one; an arc in use may be gone back. */
    private int flow(int v) {
        boolean[] used = new boolean[arcs.size()];
        for (int count = 0;; count++) {
            if (!push(root, v, used, new boolean[nodes])) {
                return count;
            }
        }
    }

    private boolean push(int at, int v, boolean[] used, boolean[] seen) {
        if (at == v) {
            return true;
        }
        seen[at] = true;
        for (int i = 0; i < arcs.size(); i++) {
            boolean on = open.get(i) && !used[i] && from(i) == at && !seen[to(i)];
            boolean back = open.get(i) && used[i] && to(i) == at && !seen[from(i)];
            if ((on || back) && push(on ? to(i) : from(i), v, used, seen)) {
                used[i] = on;
                return true;
            }
        }
        return false;
    }

    int wall(int v) {
        if (v == root) {
            return NONE;
        }
        int least = NONE;
        for (int set = 0; set < 1 << nodes; set++) {
            boolean allowed = !in(set, root) && !in(set, v);
            if (allowed && (least == NONE || Integer.bitCount(set) < least) && !goes(root, v, set, 0)) {
                least = Integer.bitCount(set);
            }
        }
        return least;
    }

    int tollsOf(int set) {
        int sum = 0;
        for (int v = 0; v < nodes; v++) {
            sum += in(set, v) ? tolls[v] : 0;
        }
        return sum;
    }

    int fee(int v) {
        return reached(v) ? tollsOf(gates(v) | 1 << v) : NONE;
    }

    int fare(int v) {
        if (byWays) {
            return ways(root, v).stream().mapToInt(way -> tollsOf(nodesOf(way, root))).min().orElse(NONE);
        }
        int[] fares = new int[nodes];
        Arrays.fill(fares, 99999);
        fares[root] = tolls[root];
        for (int k = 0; k < nodes; k++) {
            for (int i = 0; i < arcs.size(); i++) {
                if (open.get(i)) {
                    fares[to(i)] = Math.min(fares[to(i)], fares[from(i)] + tolls[to(i)]);
                }
            }
        }
        return reached(v) ? fares[v] : NONE;
    }

    int controls(int a) {
        int set = 0;
        for (int b = 0; b < nodes; b++) {
            for (int i = 0; i < arcs.size(); i++) {
                boolean goes = open.get(i) && from(i) == a && isOut(a) && isOut(b) && isOut(to(i));
                boolean comes = to(i) == b || in(outGates(to(i)), b);
                set |= goes && comes && !in(outGates(a), b) ? 1 << b : 0;
            }
        }
        return set;
    }

    int ring(int v) {
        int set = 0;
        for (int w = 0; w < nodes; w++) {
            set |= reached(v) && leads(v, w) && leads(w, v) ? 1 << w : 0;
        }
        return set;
    }

    int tied(int v) {
        int set = 0;
        for (int w = 0; w < nodes; w++) {
            boolean tied = reached(v) && reached(w);
            for (int i = 0; i < arcs.size() && tied; i++) {
                tied = in(lostBy(i), v) == in(lostBy(i), w);
            }
            set |= tied ? 1 << w : 0;
        }
        return set;
    }

    // ---- arcs, and what would be

    int kind(int i) {
        if (!open.get(i)) {
            return 0;
        }
        if (!reached(from(i))) {
            return 1;
        }
        return isBack(i) ? 2 : keeper(to(i)) == from(i) ? 3 : 4;
    }

    /** Gained, lost, moved, lift. */
    int[] changeTo(SlowNet after) {
        int[] change = new int[4];
        for (int v = 0; v < nodes; v++) {
            boolean was = reached(v);
            boolean is = after.reached(v);
            change[0] |= is && !was ? 1 << v : 0;
            change[1] |= was && !is ? 1 << v : 0;
            change[2] |= was && is && keeper(v) != after.keeper(v) ? 1 << v : 0;
            change[3] += was && is ? depth(v) - after.depth(v) : 0;
        }
        return change;
    }

    int[] fall(int i) {
        return changeTo(withOpen(i, false));
    }

    int[] would(int a, int b) {
        return changeTo(withArc(a, b));
    }

    /** The two and the lift. */
    int[] best() {
        int[] best = {NONE, NONE, 0};
        for (int a = 0; a < nodes; a++) {
            for (int b = 0; b < nodes; b++) {
                int lift = would(a, b)[3];
                if (lift > best[2]) {
                    best = new int[] {a, b, lift};
                }
            }
        }
        return best;
    }

    int[] worst() {
        int[] worst = {NONE, 0};
        for (int i = 0; i < arcs.size(); i++) {
            if (Integer.bitCount(lostBy(i)) > worst[1]) {
                worst = new int[] {i, Integer.bitCount(lostBy(i))};
            }
        }
        return worst;
    }

    int spareArcs() {
        int count = 0;
        for (int i = 0; i < arcs.size(); i++) {
            if (open.get(i)) {
                int[] fall = fall(i);
                count += fall[1] == 0 && fall[2] == 0 ? 1 : 0;
            }
        }
        return count;
    }

    int count(int what) {
        if (sumsKnown == null) {
            sumsKnown = sums();
        }
        return sumsKnown[what];
    }

    private int[] sums() {
        int[] sums = new int[19];
        sums[0] = nodes;
        sums[1] = root;
        sums[2] = exit;
        sums[3] = arcs.size();
        sums[5] = reachedSet();
        sums[7] = heads();
        sums[10] = sound() ? 1 : 0;
        sums[17] = tollsOf(reachedSet());
        List<Integer> rings = new ArrayList<>();
        for (int v = 0; v < nodes; v++) {
            sums[6] = Math.max(sums[6], depth(v));
            sums[11] += Math.max(0, depth(v));
            sums[12] |= reached(v) && kept(v) == 0 ? 1 << v : 0;
            sums[13] = Math.max(sums[13], nest(v));
            for (int w = 0; w < nodes; w++) {
                sums[15] += keeps(v, w) && in(outGates(v), w) ? 1 : 0;
            }
            if (reached(v) && !rings.contains(ring(v))) {
                rings.add(ring(v));
            }
        }
        sums[16] = rings.size();
        for (int i = 0; i < arcs.size(); i++) {
            sums[4] += open.get(i) ? 1 : 0;
            sums[8] += isBack(i) ? 1 : 0;
            sums[9] += isBridge(i) ? 1 : 0;
        }
        sums[18] = spareArcs();
        return sums;
    }
}
