import java.util.ArrayDeque;
import java.util.ArrayList;
import java.util.Arrays;
import java.util.Collections;
import java.util.Comparator;
import java.util.Deque;
import java.util.HashMap;
import java.util.List;
import java.util.Map;
import java.util.TreeMap;

/** The document word by word, in the plainest and slowest form: what SameBench is compared with. */
final class Model {
    static final int BAD = -1, NOT = -2, FULL = -3, NULL = -11, INDEX = -12, CAST = -13, SIZE = -14;

    private static final class Thing {
        int kind;
        int colour;
        int word;
        List<Integer> row;

        Thing(int kind, int colour, int word, List<Integer> row) {
            this.kind = kind;
            this.colour = colour;
            this.word = word;
            this.row = row == null ? null : new ArrayList<>(row);
        }

        Thing again() {
            return new Thing(kind, colour, word, row);
        }

        boolean isNamed() {
            return kind >= 1 && kind <= 3;
        }

        int key() {
            switch (kind) {
                case 1: return colour + 10 * (word + 1);
                case 2: return colour + 10 * (word + 1) + 2000;
                case 3: return colour + 10 * (word + 1) + 4000;
                default: return colour;
            }
        }
    }

    /** What is shown of a graph at a time: numbers, keys and lines by thing. */
    private static final class Net {
        final List<Integer> shown = new ArrayList<>();
        final int[] key = new int[12];
        final int[][] line = new int[12][12];
    }

    private static final class TooMany extends Exception {
        private static final long serialVersionUID = 1;
    }

    private static final Comparator<List<Integer>> BY_FIRST_THAT_DIFFERS = (a, b) -> {
        for (int k = 0; k < Math.min(a.size(), b.size()); k++) {
            int c = Integer.compare(a.get(k), b.get(k));
            if (c != 0) return c;
        }
        return Integer.compare(a.size(), b.size());
    };

    private final List<List<Thing>> graphs = new ArrayList<>();
    private final Deque<Integer> undoGraphs = new ArrayDeque<>();
    private final Deque<List<Thing>> undoThings = new ArrayDeque<>();
    private Net partedNet;
    private List<List<Integer>> parted;
    private Tree named;
    private Map<Integer, Integer> turning;
    private List<Map<Integer, Integer>> makersFound = new ArrayList<>();
    private int[] difference;
    private List<List<Integer>> listedNames = new ArrayList<>();
    private int listedThings;

    Model() {
        for (int g = 0; g < 8; g++) graphs.add(new ArrayList<>());
    }

    // ---- graphs

    private static boolean in(int a, int least, int most) {
        return a >= least && a <= most;
    }

    private boolean g(int graph) {
        return in(graph, 0, 7);
    }

    private boolean t(int graph, int i) {
        return g(graph) && in(i, 0, graphs.get(graph).size() - 1);
    }

    private Thing at(int graph, int i) {
        return graphs.get(graph).get(i);
    }

    private static List<Thing> again(List<Thing> things) {
        List<Thing> all = new ArrayList<>();
        for (Thing thing : things) all.add(thing.again());
        return all;
    }

    private void keep(int graph) {
        undoGraphs.push(graph);
        undoThings.push(again(graphs.get(graph)));
        if (undoGraphs.size() > 20) {
            undoGraphs.removeLast();
            undoThings.removeLast();
        }
    }

    int thing(int graph, int kind, int colour, int word) {
        if (!g(graph) || !in(kind, 0, 4) || !in(colour, 0, 9)) return BAD;
        if (in(kind, 1, 3) && !in(word, 0, 99)) return BAD;
        if (graphs.get(graph).size() == 12) return FULL;
        keep(graph);
        graphs.get(graph).add(new Thing(kind, colour, word, null));
        return graphs.get(graph).size() - 1;
    }

    int colour(int graph, int i, int c) {
        if (!t(graph, i) || !in(c, 0, 9)) return BAD;
        keep(graph);
        int was = at(graph, i).colour;
        at(graph, i).colour = c;
        return was;
    }

    int word(int graph, int i, int w) {
        if (!t(graph, i) || !in(w, 0, 99)) return BAD;
        if (!at(graph, i).isNamed()) return CAST;
        keep(graph);
        int was = at(graph, i).word;
        at(graph, i).word = w;
        return was;
    }

    int row(int graph, int i, int n) {
        if (!t(graph, i) || n > 12) return BAD;
        if (n < 0) return SIZE;
        keep(graph);
        at(graph, i).row = new ArrayList<>(Collections.nCopies(n, 0));
        return 1;
    }

    int unrow(int graph, int i) {
        if (!t(graph, i)) return BAD;
        if (at(graph, i).row == null) return NULL;
        keep(graph);
        int was = at(graph, i).row.size();
        at(graph, i).row = null;
        return was;
    }

    int place(int graph, int i, int j, int v) {
        if (!t(graph, i) || !in(v, 0, 9)) return BAD;
        if (at(graph, i).row == null) return NULL;
        if (!in(j, 0, at(graph, i).row.size() - 1)) return INDEX;
        keep(graph);
        return at(graph, i).row.set(j, v);
    }

    private int lineOf(int graph, int i, int j) {
        List<Integer> row = at(graph, i).row;
        return row == null || j >= row.size() ? 0 : row.get(j);
    }

    int line(int graph, int i, int j) {
        if (!t(graph, i) || !t(graph, j)) return BAD;
        return lineOf(graph, i, j);
    }

    int copy(int graph, int i, int from, int other, int k, int to, int n) {
        if (!t(graph, i) || !t(other, k)) return BAD;
        List<Integer> source = at(graph, i).row;
        List<Integer> target = at(other, k).row;
        if (source == null || target == null) return NULL;
        if (n < 0 || from < 0 || to < 0) return INDEX;
        if ((long) from + n > source.size() || (long) to + n > target.size()) return INDEX;
        keep(other);
        List<Integer> taken = new ArrayList<>(source.subList(from, from + n));
        for (int p = 0; p < n; p++) target.set(to + p, taken.get(p));
        return n;
    }

    int swap(int graph, int i, int j) {
        if (!t(graph, i) || !t(graph, j)) return BAD;
        keep(graph);
        for (Thing thing : graphs.get(graph)) {
            if (thing.row == null) continue;
            while (thing.row.size() < 12) thing.row.add(0);
            Collections.swap(thing.row, i, j);
        }
        Collections.swap(graphs.get(graph), i, j);
        return 1;
    }

    int twin(int from, int to) {
        if (!g(from) || !g(to)) return BAD;
        keep(to);
        graphs.set(to, again(graphs.get(from)));
        return graphs.get(to).size();
    }

    int drop(int graph) {
        if (!g(graph)) return BAD;
        keep(graph);
        int had = graphs.get(graph).size();
        graphs.get(graph).clear();
        return had;
    }

    int told(int graph, int i, int what) {
        if (!t(graph, i) || !in(what, 0, 4)) return BAD;
        Thing thing = at(graph, i);
        if (what == 0) return thing.kind;
        if (what == 1) return thing.colour;
        if (what == 2) return thing.key();
        if (what == 3) return thing.row == null ? NULL : thing.row.size();
        return thing.isNamed() ? 1 : 0;
    }

    int count(int graph, int what) {
        if (!g(graph) || !in(what, 0, 3)) return BAD;
        if (what == 0) return graphs.get(graph).size();
        if (what == 1) return net(graph).shown.size();
        if (what == 2) return right(graph) ? 1 : 0;
        return undoGraphs.size();
    }

    int undo() {
        if (undoGraphs.isEmpty()) return NOT;
        int graph = undoGraphs.pop();
        graphs.set(graph, undoThings.pop());
        return graph;
    }

    private boolean right(int graph) {
        for (Thing one : graphs.get(graph)) {
            int namesakes = 0;
            for (Thing other : graphs.get(graph)) {
                if (other != one && other.isNamed() && other.word == one.word) namesakes++;
            }
            if (one.kind == 2 && namesakes > 0) return false;
            if (one.kind == 3 && namesakes != 1) return false;
        }
        return true;
    }

    private Net net(int graph) {
        Net net = new Net();
        for (int i = 0; i < graphs.get(graph).size(); i++) {
            if (at(graph, i).kind != 4) net.shown.add(i);
            net.key[i] = at(graph, i).key();
            for (int j = 0; j < 12; j++) net.line[i][j] = lineOf(graph, i, j);
        }
        return net;
    }

    // ---- partings and names

    private static List<List<Integer>> byHeaps(TreeMap<List<Integer>, List<Integer>> parts) {
        return new ArrayList<>(parts.values());
    }

    private static List<List<Integer>> start(Net net) {
        TreeMap<List<Integer>, List<Integer>> parts = new TreeMap<>(BY_FIRST_THAT_DIFFERS);
        for (int i : net.shown) parts.computeIfAbsent(List.of(net.key[i]), k -> new ArrayList<>()).add(i);
        return byHeaps(parts);
    }

    private static List<List<Integer>> split(Net net, List<List<Integer>> heaps) {
        List<List<Integer>> now = heaps;
        while (true) {
            TreeMap<List<Integer>, List<Integer>> parts = new TreeMap<>(BY_FIRST_THAT_DIFFERS);
            for (int h = 0; h < now.size(); h++) {
                for (int i : now.get(h)) parts.computeIfAbsent(sight(net, now, h, i), k -> new ArrayList<>()).add(i);
            }
            List<List<Integer>> next = byHeaps(parts);
            boolean more = next.size() > now.size();
            now = next;
            if (!more) return now;
        }
    }

    private static List<Integer> sight(Net net, List<List<Integer>> heaps, int own, int i) {
        List<Integer> sight = new ArrayList<>();
        sight.add(own);
        for (int side = 0; side < 2; side++) {
            for (List<Integer> heap : heaps) {
                for (int v = 1; v <= 9; v++) {
                    int many = 0;
                    for (int j : heap) if ((side == 0 ? net.line[i][j] : net.line[j][i]) == v) many++;
                    sight.add(many);
                }
            }
        }
        return sight;
    }

    private static List<List<Integer>> marked(Net net, List<List<Integer>> heaps, int i) {
        List<List<Integer>> now = new ArrayList<>();
        for (List<Integer> heap : heaps) {
            List<Integer> rest = new ArrayList<>(heap);
            if (rest.remove((Integer) i)) now.add(List.of(i));
            if (!rest.isEmpty()) now.add(rest);
        }
        return split(net, now);
    }

    int split(int graph) {
        if (!g(graph)) return BAD;
        partedNet = net(graph);
        parted = split(partedNet, start(partedNet));
        return parted.size();
    }

    private int heapIn(int i) {
        for (int h = 0; h < parted.size(); h++) if (parted.get(h).contains(i)) return h;
        return BAD;
    }

    int mark(int i) {
        if (parted == null) return NOT;
        if (heapIn(i) == BAD) return BAD;
        parted = marked(partedNet, parted, i);
        return parted.size();
    }

    int heapOf(int i) {
        return parted == null ? NOT : heapIn(i);
    }

    private static final class Tree {
        int leaves;
        int nodes;
        List<Integer> name;
        List<Integer> order;

        void grow(Net net, List<List<Integer>> node) throws TooMany {
            nodes++;
            List<Integer> target = null;
            for (List<Integer> heap : node) if (target == null && heap.size() > 1) target = heap;
            if (target == null) {
                leaf(net, node);
                return;
            }
            List<Integer> sorted = new ArrayList<>(target);
            Collections.sort(sorted);
            for (int i : sorted) {
                boolean lesserTwin = false;
                for (int j : sorted) if (j < i && twins(net, i, j)) lesserTwin = true;
                if (!lesserTwin) grow(net, marked(net, node, i));
            }
        }

        private void leaf(Net net, List<List<Integer>> node) throws TooMany {
            if (++leaves > 3000) throw new TooMany();
            List<Integer> row = new ArrayList<>();
            row.add(node.size());
            for (List<Integer> heap : node) row.add(net.key[heap.get(0)]);
            for (List<Integer> heap : node) {
                for (List<Integer> other : node) row.add(net.line[heap.get(0)][other.get(0)]);
            }
            if (name != null && BY_FIRST_THAT_DIFFERS.compare(row, name) >= 0) return;
            name = row;
            order = new ArrayList<>();
            for (List<Integer> heap : node) order.add(heap.get(0));
        }

        private static boolean twins(Net net, int i, int j) {
            Map<Integer, Integer> exchange = new HashMap<>();
            for (int k : net.shown) exchange.put(k, k == i ? j : k == j ? i : k);
            return isTurning(net, exchange);
        }
    }

    private static boolean isTurning(Net net, Map<Integer, Integer> to) {
        for (int i : net.shown) {
            if (net.key[i] != net.key[to.get(i)]) return false;
            for (int j : net.shown) if (net.line[i][j] != net.line[to.get(i)][to.get(j)]) return false;
        }
        return true;
    }

    private static Tree tree(Net net) {
        Tree tree = new Tree();
        try {
            tree.grow(net, split(net, start(net)));
        } catch (TooMany full) {
            return null;
        }
        return tree;
    }

    int name(int graph) {
        if (!g(graph)) return BAD;
        if (!right(graph)) return NOT;
        named = tree(net(graph));
        return named == null ? FULL : named.leaves;
    }

    int nameAt(int k) {
        if (named == null || k < -1 || k >= named.name.size()) return BAD;
        return k == -1 ? named.name.size() : named.name.get(k);
    }

    int order(int p) {
        return named == null || p < 0 || p >= named.order.size() ? BAD : named.order.get(p);
    }

    int nodes() {
        return named == null ? BAD : named.nodes;
    }

    int same(int graph, int other) {
        if (!g(graph) || !g(other)) return BAD;
        if (!right(graph) || !right(other)) return NOT;
        Tree one = tree(net(graph));
        Tree two = tree(net(other));
        if (one == null || two == null) return FULL;
        if (!one.name.equals(two.name)) return 0;
        turning = new HashMap<>();
        for (int p = 0; p < one.order.size(); p++) turning.put(one.order.get(p), two.order.get(p));
        return 1;
    }

    private boolean apart(List<Integer> one, List<Integer> two) {
        for (int k = 0; k < Math.min(one.size(), two.size()); k++) {
            if (one.get(k).equals(two.get(k))) continue;
            difference = new int[] {k, one.get(k), two.get(k)};
            return true;
        }
        return false;
    }

    private static List<Integer> startKeys(Net net) {
        List<Integer> keys = new ArrayList<>();
        for (List<Integer> heap : start(net)) for (int i : heap) keys.add(net.key[i]);
        return keys;
    }

    private static List<Integer> sizes(Net net) {
        List<Integer> sizes = new ArrayList<>();
        for (List<Integer> heap : split(net, start(net))) sizes.add(heap.size());
        return sizes;
    }

    int unlike(int graph, int other) {
        if (!g(graph) || !g(other)) return BAD;
        if (!right(graph) || !right(other)) return NOT;
        Net one = net(graph);
        Net two = net(other);
        if (apart(List.of(one.shown.size()), List.of(two.shown.size()))) return 1;
        if (apart(startKeys(one), startKeys(two))) return 2;
        if (apart(sizes(one), sizes(two))) return 3;
        Tree first = tree(one);
        Tree second = tree(two);
        if (first == null || second == null) return FULL;
        return apart(first.name, second.name) ? 4 : 0;
    }

    int why(int what) {
        return difference == null || !in(what, 0, 2) ? BAD : difference[what];
    }

    // ---- turnings

    /** The least turning that leaves the first things where they are and takes one to another; null: none. */
    private static Map<Integer, Integer> least(Net net, int left, int a, int b) {
        Map<Integer, Integer> to = new HashMap<>();
        return extend(net, left, a, b, to, 0) ? to : null;
    }

    private static boolean extend(Net net, int left, int a, int b, Map<Integer, Integer> to, int k) {
        if (k == net.shown.size()) return true;
        int i = net.shown.get(k);
        for (int j : net.shown) {
            if (to.containsValue(j) || k < left && j != i || (i == a) != (j == b)) continue;
            to.put(i, j);
            if (fits(net, to, i) && extend(net, left, a, b, to, k + 1)) return true;
            to.remove(i);
        }
        return false;
    }

    private static boolean fits(Net net, Map<Integer, Integer> to, int i) {
        if (net.key[i] != net.key[to.get(i)]) return false;
        for (int j : to.keySet()) {
            if (net.line[i][j] != net.line[to.get(i)][to.get(j)]) return false;
            if (net.line[j][i] != net.line[to.get(j)][to.get(i)]) return false;
        }
        return true;
    }

    private static int chainAt(Net net, int k) {
        int many = 0;
        for (int j : net.shown) if (least(net, k, net.shown.get(k), j) != null) many++;
        return many;
    }

    long turnings(int graph) {
        if (!g(graph)) return BAD;
        if (!right(graph)) return NOT;
        Net net = net(graph);
        long many = 1;
        for (int k = 0; k < net.shown.size(); k++) many *= chainAt(net, k);
        return many;
    }

    int chain(int graph, int k) {
        if (!g(graph)) return BAD;
        if (!right(graph)) return NOT;
        Net net = net(graph);
        return in(k, 0, net.shown.size() - 1) ? chainAt(net, k) : BAD;
    }

    int where(int graph, int a, int b) {
        if (!g(graph)) return BAD;
        if (!right(graph)) return NOT;
        Net net = net(graph);
        if (!net.shown.contains(a) || !net.shown.contains(b)) return BAD;
        Map<Integer, Integer> found = least(net, 0, a, b);
        if (found == null) return 0;
        turning = found;
        return 1;
    }

    int orbit(int graph, int a) {
        if (!g(graph)) return BAD;
        if (!right(graph)) return NOT;
        Net net = net(graph);
        if (!net.shown.contains(a)) return BAD;
        int many = 0;
        for (int b : net.shown) if (least(net, 0, a, b) != null) many++;
        return many;
    }

    int by(int i) {
        return turning == null || !turning.containsKey(i) ? BAD : turning.get(i);
    }

    int makers(int graph) {
        if (!g(graph)) return BAD;
        if (!right(graph)) return NOT;
        Net net = net(graph);
        makersFound = new ArrayList<>();
        for (int k = net.shown.size() - 1; k >= 0; k--) {
            int from = net.shown.get(k);
            for (int j : net.shown) {
                if (reached(from).contains(j)) continue;
                Map<Integer, Integer> found = least(net, k, from, j);
                if (found != null) makersFound.add(found);
            }
        }
        return makersFound.size();
    }

    private List<Integer> reached(int from) {
        List<Integer> all = new ArrayList<>(List.of(from));
        for (int p = 0; p < all.size(); p++) {
            for (Map<Integer, Integer> maker : makersFound) {
                int next = maker.get(all.get(p));
                if (!all.contains(next)) all.add(next);
            }
        }
        return all;
    }

    int maker(int m, int i) {
        if (!in(m, 0, makersFound.size() - 1) || !makersFound.get(m).containsKey(i)) return BAD;
        return makersFound.get(m).get(i);
    }

    int then(int m) {
        if (!in(m, 0, makersFound.size() - 1)) return BAD;
        Map<Integer, Integer> maker = makersFound.get(m);
        if (turning == null || !turning.keySet().equals(maker.keySet())) return NOT;
        if (!maker.keySet().containsAll(turning.values())) return NOT;
        Map<Integer, Integer> next = new HashMap<>();
        for (int i : turning.keySet()) next.put(i, maker.get(turning.get(i)));
        turning = next;
        return 1;
    }

    // ---- the list

    private static final Map<List<Integer>, List<List<Integer>>> LISTS = new HashMap<>();

    int list(int n, int m) {
        if (!in(n, 1, 5) || !in(m, 0, n * (n - 1) / 2)) return BAD;
        listedThings = n;
        listedNames = LISTS.computeIfAbsent(List.of(n, m), k -> names(n, m));
        return listedNames.size();
    }

    private static List<List<Integer>> names(int n, int m) {
        TreeMap<List<Integer>, Boolean> found = new TreeMap<>(BY_FIRST_THAT_DIFFERS);
        int pairs = n * (n - 1) / 2;
        for (int mask = 0; mask < 1 << pairs; mask++) {
            if (Integer.bitCount(mask) != m) continue;
            Net net = new Net();
            int bit = 0;
            for (int i = 0; i < n; i++) {
                net.shown.add(i);
                for (int j = i + 1; j < n; j++) {
                    net.line[i][j] = mask >> bit & 1;
                    net.line[j][i] = mask >> bit & 1;
                    bit++;
                }
            }
            found.put(tree(net).name, true);
        }
        return new ArrayList<>(found.keySet());
    }

    int listed(int i, int graph) {
        if (!g(graph) || !in(i, 0, listedNames.size() - 1)) return BAD;
        keep(graph);
        List<Integer> name = listedNames.get(i);
        int n = listedThings;
        List<Thing> things = new ArrayList<>();
        for (int p = 0; p < n; p++) {
            things.add(new Thing(0, 0, 0, name.subList(1 + n + p * n, 1 + n + p * n + n)));
        }
        graphs.set(graph, things);
        return n;
    }

    /** Plays a call told as its name and arguments. */
    long call(String name, int... a) {
        switch (name) {
            case "thing": return thing(a[0], a[1], a[2], a[3]);
            case "colour": return colour(a[0], a[1], a[2]);
            case "word": return word(a[0], a[1], a[2]);
            case "row": return row(a[0], a[1], a[2]);
            case "unrow": return unrow(a[0], a[1]);
            case "place": return place(a[0], a[1], a[2], a[3]);
            case "line": return line(a[0], a[1], a[2]);
            case "copy": return copy(a[0], a[1], a[2], a[3], a[4], a[5], a[6]);
            case "swap": return swap(a[0], a[1], a[2]);
            case "twin": return twin(a[0], a[1]);
            case "drop": return drop(a[0]);
            case "told": return told(a[0], a[1], a[2]);
            case "count": return count(a[0], a[1]);
            case "undo": return undo();
            case "split": return split(a[0]);
            case "mark": return mark(a[0]);
            case "heapOf": return heapOf(a[0]);
            case "name": return name(a[0]);
            case "nameAt": return nameAt(a[0]);
            case "order": return order(a[0]);
            case "nodes": return nodes();
            case "same": return same(a[0], a[1]);
            case "unlike": return unlike(a[0], a[1]);
            case "why": return why(a[0]);
            case "turnings": return turnings(a[0]);
            case "chain": return chain(a[0], a[1]);
            case "where": return where(a[0], a[1], a[2]);
            case "orbit": return orbit(a[0], a[1]);
            case "by": return by(a[0]);
            case "makers": return makers(a[0]);
            case "maker": return maker(a[0], a[1]);
            case "then": return then(a[0]);
            case "list": return list(a[0], a[1]);
            case "listed": return listed(a[0], a[1]);
            default: throw new IllegalArgumentException(name + Arrays.toString(a));
        }
    }
}
