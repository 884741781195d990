/** Tells whether two drawn nets are the same but for names. What each call answers stands in shared/DOC.md. */
public final class SameBench {
    public static final int BAD = -1, NOT = -2, FULL = -3;

    private static final int NULL = -11, INDEX = -12, CAST = -13, SIZE = -14;
    private static final int GRAPHS = 8;
    private static final int MOST = 12;
    private static final int COLOURS = 10;
    private static final int WORDS = 100;
    private static final int VALUES = 10;
    private static final int PLAIN = 0, NAMED = 1, ROOTED = 2, PAIR = 3, HIDDEN = 4;
    private static final int NONE = -1;
    private static final int MOST_KEPT = 20;
    private static final int MOST_LEAVES = 3000;
    private static final int MOST_LISTED_THINGS = 5;

    private final Net[] nets = new Net[GRAPHS];
    private final History history = new History();
    private final Shown shown = new Shown();
    private final Splitter splitter = new Splitter();
    private final Tree tree = new Tree(splitter);
    private final Turner turner = new Turner(splitter);
    private final Comparer comparer = new Comparer(splitter, tree);

    private boolean isParted;
    private final Shown partedThings = new Shown();
    private final Parting parting = new Parting();
    private final Name nameAtHand = new Name();
    private final Turning turning = new Turning();
    private final Turning[] makersFound = new Turning[MOST];
    private int makerCount;
    private final Lister lister = new Lister();

    public SameBench() {
        for (int graph = 0; graph < GRAPHS; graph++) nets[graph] = new Net();
        for (int m = 0; m < MOST; m++) makersFound[m] = new Turning();
    }

    // ---- 1 graphs

    public int thing(int graph, int kind, int colour, int word) {
        if (!isGraph(graph) || !isBelow(kind, HIDDEN + 1) || !isBelow(colour, COLOURS)) return BAD;
        if (isNamedKind(kind) && !isBelow(word, WORDS)) return BAD;
        if (nets[graph].things >= MOST) return FULL;
        keep(graph);
        return nets[graph].add(kind, colour, word);
    }

    public int colour(int graph, int i, int c) {
        if (!isThing(graph, i) || !isBelow(c, COLOURS)) return BAD;
        keep(graph);
        int was = nets[graph].colour[i];
        nets[graph].colour[i] = c;
        return was;
    }

    public int word(int graph, int i, int w) {
        if (!isThing(graph, i) || !isBelow(w, WORDS)) return BAD;
        if (!nets[graph].isNamed(i)) return CAST;
        keep(graph);
        int was = nets[graph].word[i];
        nets[graph].word[i] = w;
        return was;
    }

    public int row(int graph, int i, int n) {
        if (!isThing(graph, i) || n > MOST) return BAD;
        if (n < 0) return SIZE;
        keep(graph);
        nets[graph].clearRow(i, n);
        return 1;
    }

    public int unrow(int graph, int i) {
        if (!isThing(graph, i)) return BAD;
        if (!nets[graph].hasRow(i)) return NULL;
        keep(graph);
        int was = nets[graph].places[i];
        nets[graph].clearRow(i, NONE);
        return was;
    }

    public int place(int graph, int i, int j, int v) {
        if (!isThing(graph, i) || !isBelow(v, VALUES)) return BAD;
        Net net = nets[graph];
        if (!net.hasRow(i)) return NULL;
        if (!isBelow(j, net.places[i])) return INDEX;
        keep(graph);
        int was = net.lineFrom(i, j);
        net.lines[i * MOST + j] = v;
        return was;
    }

    public int line(int graph, int i, int j) {
        if (!isThing(graph, i) || !isThing(graph, j)) return BAD;
        return nets[graph].lineFrom(i, j);
    }

    public int copy(int graph, int i, int from, int other, int k, int to, int n) {
        if (!isThing(graph, i) || !isThing(other, k)) return BAD;
        Net source = nets[graph];
        Net target = nets[other];
        if (!source.hasRow(i) || !target.hasRow(k)) return NULL;
        if (n < 0 || from < 0 || to < 0) return INDEX;
        if (n > source.places[i] - from || n > target.places[k] - to) return INDEX;
        keep(other);
        System.arraycopy(source.lines, i * MOST + from, target.lines, k * MOST + to, n);
        return n;
    }

    public int swap(int graph, int i, int j) {
        if (!isThing(graph, i) || !isThing(graph, j)) return BAD;
        keep(graph);
        nets[graph].lengthenRows();
        nets[graph].exchange(i, j);
        return 1;
    }

    public int twin(int from, int to) {
        if (!isGraph(from) || !isGraph(to)) return BAD;
        keep(to);
        nets[to].become(nets[from]);
        return nets[to].things;
    }

    public int drop(int graph) {
        if (!isGraph(graph)) return BAD;
        keep(graph);
        int was = nets[graph].things;
        nets[graph].things = 0;
        return was;
    }

    public int told(int graph, int i, int what) {
        if (!isThing(graph, i)) return BAD;
        Net net = nets[graph];
        switch (what) {
            case 0: return net.kind[i];
            case 1: return net.colour[i];
            case 2: return net.keyOf(i);
            case 3: return net.hasRow(i) ? net.places[i] : NULL;
            case 4: return net.isNamed(i) ? 1 : 0;
            default: return BAD;
        }
    }

    public int count(int graph, int what) {
        if (!isGraph(graph)) return BAD;
        switch (what) {
            case 0: return nets[graph].things;
            case 1: return nets[graph].countShown();
            case 2: return nets[graph].isRight() ? 1 : 0;
            case 3: return history.kept;
            default: return BAD;
        }
    }

    public int undo() {
        if (history.kept == 0) return NOT;
        int graph = history.latestGraph();
        nets[graph].become(history.latestNet());
        history.forgetLatest();
        return graph;
    }

    // ---- 2 partings and names

    public int split(int graph) {
        if (!isGraph(graph)) return BAD;
        partedThings.take(nets[graph]);
        splitter.begin(parting, partedThings);
        isParted = true;
        return parting.heaps;
    }

    public int mark(int i) {
        if (!isParted) return NOT;
        int x = partedThings.indexOf(i);
        if (x < 0) return BAD;
        parting.setApart(x);
        splitter.settle(parting, partedThings);
        return parting.heaps;
    }

    public int heapOf(int i) {
        if (!isParted) return NOT;
        int x = partedThings.indexOf(i);
        return x < 0 ? BAD : parting.heap[x];
    }

    public int name(int graph) {
        if (!isGraph(graph)) return BAD;
        if (!nets[graph].isRight()) return NOT;
        shown.take(nets[graph]);
        return tree.findName(shown, nameAtHand) ? nameAtHand.leaves : FULL;
    }

    public int nameAt(int k) {
        if (!nameAtHand.isThere) return BAD;
        if (k == -1) return nameAtHand.length;
        return isBelow(k, nameAtHand.length) ? nameAtHand.row[k] : BAD;
    }

    public int order(int p) {
        if (!nameAtHand.isThere || !isBelow(p, nameAtHand.things)) return BAD;
        return nameAtHand.order[p];
    }

    public int nodes() {
        return nameAtHand.isThere ? nameAtHand.nodes : BAD;
    }

    public int same(int graph, int other) {
        if (!isGraph(graph) || !isGraph(other)) return BAD;
        if (!nets[graph].isRight() || !nets[other].isRight()) return NOT;
        comparer.take(nets[graph], nets[other]);
        if (!comparer.findNames()) return FULL;
        if (!comparer.isOneName()) return 0;
        turning.takeOrders(comparer.firstName, comparer.secondName);
        return 1;
    }

    public int unlike(int graph, int other) {
        if (!isGraph(graph) || !isGraph(other)) return BAD;
        if (!nets[graph].isRight() || !nets[other].isRight()) return NOT;
        comparer.take(nets[graph], nets[other]);
        return comparer.tellApart();
    }

    public int why(int what) {
        if (!comparer.isToldApart || !isBelow(what, comparer.difference.length)) return BAD;
        return comparer.difference[what];
    }

    // ---- 3 turnings

    public long turnings(int graph) {
        int refusal = refusalOfTurnings(graph);
        if (refusal != 0) return refusal;
        turner.findMakers(shown);
        long all = 1;
        for (int x = 0; x < shown.things; x++) all *= turner.chain[x];
        return all;
    }

    public int chain(int graph, int k) {
        int refusal = refusalOfTurnings(graph);
        if (refusal != 0) return refusal;
        if (!isBelow(k, shown.things)) return BAD;
        turner.findMakers(shown);
        return turner.chain[k];
    }

    public int where(int graph, int a, int b) {
        int refusal = refusalOfTurnings(graph);
        if (refusal != 0) return refusal;
        int x = shown.indexOf(a);
        int y = shown.indexOf(b);
        if (x < 0 || y < 0) return BAD;
        if (!turner.findLeast(shown, x, y)) return 0;
        turning.take(shown, turner.image, 0);
        return 1;
    }

    public int orbit(int graph, int a) {
        int refusal = refusalOfTurnings(graph);
        if (refusal != 0) return refusal;
        int x = shown.indexOf(a);
        if (x < 0) return BAD;
        turner.findMakers(shown);
        return turner.countReached(x);
    }

    public int by(int i) {
        return turning.leadsFrom(i) ? turning.to[i] : BAD;
    }

    public int makers(int graph) {
        int refusal = refusalOfTurnings(graph);
        if (refusal != 0) return refusal;
        turner.findMakers(shown);
        makerCount = turner.makerCount;
        for (int m = 0; m < makerCount; m++) makersFound[m].take(shown, turner.makers, m * MOST);
        return makerCount;
    }

    public int maker(int m, int i) {
        if (!isBelow(m, makerCount) || !makersFound[m].leadsFrom(i)) return BAD;
        return makersFound[m].to[i];
    }

    public int then(int m) {
        if (!isBelow(m, makerCount)) return BAD;
        if (!turning.isWithin(makersFound[m])) return NOT;
        turning.goOnBy(makersFound[m]);
        return 1;
    }

    // ---- 4 the list

    public int list(int n, int m) {
        if (n < 1 || n > MOST_LISTED_THINGS || m < 0 || m > n * (n - 1) / 2) return BAD;
        lister.make(n, m, tree, shown);
        return lister.count;
    }

    public int listed(int i, int graph) {
        if (!isGraph(graph) || !isBelow(i, lister.count)) return BAD;
        keep(graph);
        nets[graph].becomeNamed(lister.names[i]);
        return nets[graph].things;
    }

    // ---- what several calls need

    private static boolean isBelow(int number, int end) {
        return number >= 0 && number < end;
    }

    private static boolean isNamedKind(int kind) {
        return kind == NAMED || kind == ROOTED || kind == PAIR;
    }

    private static boolean isGraph(int graph) {
        return isBelow(graph, GRAPHS);
    }

    private boolean isThing(int graph, int i) {
        return isGraph(graph) && isBelow(i, nets[graph].things);
    }

    private void keep(int graph) {
        history.keep(graph, nets[graph]);
    }

    /** Takes the shown things of a graph, if it has turnings: 0; else the refusal. */
    private int refusalOfTurnings(int graph) {
        if (!isGraph(graph)) return BAD;
        if (!nets[graph].isRight()) return NOT;
        shown.take(nets[graph]);
        return 0;
    }

    private static Parting[] makePartings(int count) {
        Parting[] made = new Parting[Math.max(count, 0)];
        for (int k = 0; k < made.length; k++) made[k] = new Parting();
        return made;
    }

    /** The things of one graph. Beyond the end of a row, and where there is none, all lines are 0. */
    private static final class Net {
        int things;
        final int[] kind = new int[MOST];
        final int[] colour = new int[MOST];
        final int[] word = new int[MOST];
        final int[] places = new int[MOST];
        final int[] lines = new int[MOST * MOST];

        int add(int itsKind, int itsColour, int itsWord) {
            int i = things;
            kind[i] = itsKind;
            colour[i] = itsColour;
            word[i] = isNamedKind(itsKind) ? itsWord : 0;
            clearRow(i, NONE);
            things = i + 1;
            return i;
        }

        void clearRow(int i, int n) {
            places[i] = n;
            for (int j = 0; j < MOST; j++) lines[i * MOST + j] = 0;
        }

        boolean hasRow(int i) {
            return places[i] != NONE;
        }

        boolean isNamed(int i) {
            return isNamedKind(kind[i]);
        }

        int lineFrom(int i, int j) {
            return lines[i * MOST + j];
        }

        int keyOf(int i) {
            int key = colour[i];
            if (isNamed(i)) key += 10 * (word[i] + 1);
            if (kind[i] == ROOTED) key += 2000;
            if (kind[i] == PAIR) key += 4000;
            return key;
        }

        int countShown() {
            int all = 0;
            for (int i = 0; i < things; i++) if (kind[i] != HIDDEN) all++;
            return all;
        }

        boolean isRight() {
            for (int i = 0; i < things; i++) {
                if (kind[i] == ROOTED && countNamesakes(i) != 0) return false;
                if (kind[i] == PAIR && countNamesakes(i) != 1) return false;
            }
            return true;
        }

        int countNamesakes(int i) {
            int all = 0;
            for (int j = 0; j < things; j++) if (j != i && isNamed(j) && word[j] == word[i]) all++;
            return all;
        }

        void lengthenRows() {
            for (int i = 0; i < things; i++) if (hasRow(i)) places[i] = MOST;
        }

        void exchange(int i, int j) {
            exchangeIn(kind, i, j);
            exchangeIn(colour, i, j);
            exchangeIn(word, i, j);
            exchangeIn(places, i, j);
            for (int k = 0; k < MOST; k++) exchangeIn(lines, i * MOST + k, j * MOST + k);
            for (int k = 0; k < things; k++) exchangeIn(lines, k * MOST + i, k * MOST + j);
        }

        static void exchangeIn(int[] numbers, int i, int j) {
            int kept = numbers[i];
            numbers[i] = numbers[j];
            numbers[j] = kept;
        }

        void become(Net other) {
            things = other.things;
            System.arraycopy(other.kind, 0, kind, 0, MOST);
            System.arraycopy(other.colour, 0, colour, 0, MOST);
            System.arraycopy(other.word, 0, word, 0, MOST);
            System.arraycopy(other.places, 0, places, 0, MOST);
            System.arraycopy(other.lines, 0, lines, 0, MOST * MOST);
        }

        /** Plain things of colour 0, with the lines that a name tells. */
        void becomeNamed(Name name) {
            int n = name.things;
            things = 0;
            for (int p = 0; p < n; p++) {
                add(PLAIN, 0, 0);
                places[p] = n;
                System.arraycopy(name.row, 1 + n + p * n, lines, p * MOST, n);
            }
        }
    }

    /** What the graphs were before the latest changes: a ring, the oldest of which is written over. */
    private static final class History {
        final Net[] nets = new Net[MOST_KEPT];
        final int[] graphs = new int[MOST_KEPT];
        int next;
        int kept;

        History() {
            for (int k = 0; k < MOST_KEPT; k++) nets[k] = new Net();
        }

        void keep(int graph, Net net) {
            nets[next].become(net);
            graphs[next] = graph;
            next = (next + 1) % MOST_KEPT;
            kept = Math.min(kept + 1, MOST_KEPT);
        }

        int latest() {
            return (next + MOST_KEPT - 1) % MOST_KEPT;
        }

        int latestGraph() {
            return graphs[latest()];
        }

        Net latestNet() {
            return nets[latest()];
        }

        void forgetLatest() {
            next = latest();
            kept = Math.max(kept - 1, 0);
        }
    }

    /** The shown things of a graph, numbered anew without gaps (in the same order), as they were when taken. */
    private static final class Shown {
        int things;
        final int[] number = new int[MOST];
        final int[] index = new int[MOST];
        final int[] keys = new int[MOST];
        final int[] lines = new int[MOST * MOST];
        final long[] weights = new long[MOST * MOST];

        void take(Net net) {
            things = 0;
            for (int i = 0; i < MOST; i++) index[i] = NONE;
            for (int i = 0; i < net.things; i++) if (net.kind[i] != HIDDEN) addThing(i, net.keyOf(i));
            for (int x = 0; x < things; x++) {
                for (int y = 0; y < things; y++) setLine(x, y, net.lineFrom(number[x], number[y]));
            }
        }

        /** Takes the net of n plain things that has a line, both ways, between the pairs whose bits are set. */
        void takePairs(int n, int pairs) {
            things = 0;
            for (int i = 0; i < MOST; i++) index[i] = NONE;
            for (int i = 0; i < n; i++) addThing(i, 0);
            for (int x = 0; x < n; x++) {
                setLine(x, x, 0);
                for (int y = 0; y < x; y++) {
                    int v = (pairs >> Lister.bitOf(x, y)) & 1;
                    setLine(x, y, v);
                    setLine(y, x, v);
                }
            }
        }

        void addThing(int i, int key) {
            number[things] = i;
            index[i] = things;
            keys[things] = key;
            things++;
        }

        // Four bits count the lines of one v, those of 1 highest: so sums of weights compare as sights do.
        void setLine(int x, int y, int v) {
            lines[x * MOST + y] = v;
            weights[x * MOST + y] = v == 0 ? 0L : 1L << (4 * (VALUES - 1 - v));
        }

        int lineFrom(int x, int y) {
            return lines[x * MOST + y];
        }

        int indexOf(int i) {
            return isBelow(i, MOST) ? index[i] : NONE;
        }

        boolean areTwins(int x, int y) {
            if (keys[x] != keys[y] || lineFrom(x, x) != lineFrom(y, y) || lineFrom(x, y) != lineFrom(y, x)) return false;
            for (int z = 0; z < things; z++) {
                if (z == x || z == y) continue;
                if (lineFrom(x, z) != lineFrom(y, z) || lineFrom(z, x) != lineFrom(z, y)) return false;
            }
            return true;
        }

        boolean isTurning(int[] image) {
            for (int x = 0; x < things; x++) {
                if (keys[x] != keys[image[x]]) return false;
                for (int y = 0; y < things; y++) if (lineFrom(x, y) != lineFrom(image[x], image[y])) return false;
            }
            return true;
        }
    }

    /** Things in heaps: of each thing its heap, of each heap its size, and the things by heaps. */
    private static final class Parting {
        int things;
        int heaps;
        final int[] heap = new int[MOST];
        final int[] size = new int[MOST];
        final int[] order = new int[MOST];

        void gather(int n) {
            things = n;
            heaps = n > 0 ? 1 : 0;
            size[0] = n;
            for (int x = 0; x < n; x++) {
                heap[x] = 0;
                order[x] = x;
            }
        }

        void become(Parting other) {
            things = other.things;
            heaps = other.heaps;
            System.arraycopy(other.heap, 0, heap, 0, MOST);
            System.arraycopy(other.size, 0, size, 0, MOST);
            System.arraycopy(other.order, 0, order, 0, MOST);
        }

        boolean isAlone(int x) {
            return size[heap[x]] == 1;
        }

        boolean isAllAlone() {
            return heaps == things;
        }

        /** The first heap of more than one thing; -1: none. */
        int firstBigHeap() {
            for (int h = 0; h < heaps; h++) if (size[h] > 1) return h;
            return NONE;
        }

        /** The thing of least number that is not alone in its heap; -1: none. */
        int firstNotAlone() {
            for (int x = 0; x < things; x++) if (!isAlone(x)) return x;
            return NONE;
        }

        /** Makes a thing a heap of its own, just ahead of the rest of its heap. */
        void setApart(int x) {
            if (isAlone(x)) return;
            int own = heap[x];
            for (int h = heaps; h > own + 1; h--) size[h] = size[h - 1];
            size[own + 1] = size[own] - 1;
            size[own] = 1;
            heaps++;
            for (int y = 0; y < things; y++) if (y != x && heap[y] >= own) heap[y]++;
            moveAhead(x);
        }

        void moveAhead(int x) {
            int at = 0;
            for (int p = 0; p < things; p++) if (order[p] == x) at = p;
            for (; at > 0 && heap[order[at - 1]] > heap[x]; at--) order[at] = order[at - 1];
            order[at] = x;
        }

        boolean hasHeapsLike(Parting other) {
            if (heaps != other.heaps) return false;
            for (int h = 0; h < heaps; h++) if (size[h] != other.size[h]) return false;
            return true;
        }
    }

    /** Splits partings; it has the rows of sights, which all partings use in turn. */
    private static final class Splitter {
        static final int STEP = 2 * MOST;
        final long[] sights = new long[MOST * STEP];
        int width;
        final int[] newHeap = new int[MOST];
        final int[] newSize = new int[MOST];

        /** Makes a parting the start, split. */
        void begin(Parting parting, Shown shown) {
            parting.gather(shown.things);
            width = 1;
            for (int x = 0; x < shown.things; x++) sights[x * STEP] = shown.keys[x];
            divide(parting);
            settle(parting, shown);
        }

        // Each round but the last makes more heaps, so there are no more rounds than things.
        void settle(Parting parting, Shown shown) {
            boolean more = true;
            for (int round = 0; round < MOST && more && !parting.isAllAlone(); round++) {
                int before = parting.heaps;
                look(parting, shown);
                divide(parting);
                more = parting.heaps > before;
            }
        }

        // What is alone in its heap is not compared with anything: its sight is not needed.
        void look(Parting parting, Shown shown) {
            int heaps = parting.heaps;
            int[] heap = parting.heap;
            width = 2 * heaps;
            for (int x = 0; x < parting.things; x++) {
                if (parting.isAlone(x)) continue;
                int row = x * STEP;
                for (int k = 0; k < width; k++) sights[row + k] = 0;
                for (int y = 0; y < parting.things; y++) {
                    sights[row + heap[y]] += shown.weights[x * MOST + y];
                    sights[row + heaps + heap[y]] += shown.weights[y * MOST + x];
                }
            }
        }

        /** Parts each heap by the sights of its things. */
        void divide(Parting parting) {
            int start = 0;
            int made = 0;
            int[] order = parting.order;
            for (int h = 0; h < parting.heaps; h++) {
                int end = start + parting.size[h];
                for (int p = start; p < end; p++) {
                    int x = order[p];
                    int at = p;
                    for (; at > start && compare(order[at - 1], x) > 0; at--) order[at] = order[at - 1];
                    order[at] = x;
                }
                for (int p = start; p < end; p++) {
                    if (p == start || compare(order[p - 1], order[p]) != 0) newSize[made++] = 0;
                    newHeap[order[p]] = made - 1;
                    newSize[made - 1]++;
                }
                start = end;
            }
            parting.heaps = made;
            System.arraycopy(newHeap, 0, parting.heap, 0, MOST);
            System.arraycopy(newSize, 0, parting.size, 0, MOST);
        }

        int compare(int x, int y) {
            for (int k = 0; k < width; k++) {
                long left = sights[x * STEP + k];
                long right = sights[y * STEP + k];
                if (left != right) return left < right ? -1 : 1;
            }
            return 0;
        }
    }

    /** The least row of a leaf, with the things in its order, and how large its tree is. */
    private static final class Name {
        boolean isThere;
        int things;
        int length;
        int leaves;
        int nodes;
        final int[] row = new int[1 + MOST + MOST * MOST];
        final int[] order = new int[MOST];

        /** Where the first number stands that is another one there; -1: nowhere. */
        int differsAt(Name other) {
            int end = Math.min(length, other.length);
            for (int k = 0; k < end; k++) if (row[k] != other.row[k]) return k;
            return NONE;
        }

        boolean isLessThan(Name other) {
            int at = differsAt(other);
            return at >= 0 && row[at] < other.row[at];
        }
    }

    /** Walks the tree of a graph, leaf by leaf, and keeps the least row. */
    private static final class Tree {
        final Splitter splitter;
        final Parting[] levels = makePartings(MOST + 1);
        final boolean[] twins = new boolean[MOST * MOST];
        final int[] row = new int[1 + MOST + MOST * MOST];
        Shown shown;
        Name name;

        Tree(Splitter splitter) {
            this.splitter = splitter;
        }

        /** Whether the tree has a name: not if it has too many leaves. */
        boolean findName(Shown things, Name found) {
            shown = things;
            name = found;
            name.things = shown.things;
            name.length = 1 + shown.things + shown.things * shown.things;
            name.leaves = 0;
            name.nodes = 0;
            findTwins();
            splitter.begin(levels[0], shown);
            grow(this, 0);
            name.isThere = name.leaves <= MOST_LEAVES;
            return name.isThere;
        }

        void findTwins() {
            for (int x = 0; x < shown.things; x++) {
                for (int y = 0; y < x; y++) twins[x * MOST + y] = shown.areTwins(x, y);
            }
        }

        // Each mark makes a heap more: a node as deep as there may be things is a leaf.
        private static void grow(Tree tree, int depth) {
            Parting node = tree.levels[depth];
            tree.name.nodes++;
            if (node.isAllAlone()) {
                tree.addLeaf(node);
                return;
            }
            if (depth >= MOST) return;
            int target = node.firstBigHeap();
            Parting next = tree.levels[depth + 1];
            for (int x = 0; x < node.things && tree.name.leaves <= MOST_LEAVES; x++) {
                if (node.heap[x] != target || tree.hasLesserTwin(node, x)) continue;
                next.become(node);
                next.setApart(x);
                tree.splitter.settle(next, tree.shown);
                grow(tree, depth + 1);
            }
        }

        boolean hasLesserTwin(Parting node, int x) {
            for (int y = 0; y < x; y++) if (node.heap[y] == node.heap[x] && twins[x * MOST + y]) return true;
            return false;
        }

        void addLeaf(Parting leaf) {
            name.leaves++;
            writeRow(leaf);
            if (name.leaves > 1 && !isRowLess()) return;
            System.arraycopy(row, 0, name.row, 0, name.length);
            for (int p = 0; p < leaf.things; p++) name.order[p] = shown.number[leaf.order[p]];
        }

        void writeRow(Parting leaf) {
            int n = leaf.things;
            row[0] = n;
            for (int p = 0; p < n; p++) {
                int x = leaf.order[p];
                row[1 + p] = shown.keys[x];
                for (int q = 0; q < n; q++) row[1 + n + p * n + q] = shown.lineFrom(x, leaf.order[q]);
            }
        }

        boolean isRowLess() {
            for (int k = 0; k < name.length; k++) if (row[k] != name.row[k]) return row[k] < name.row[k];
            return false;
        }
    }

    /** Two graphs side by side, and what told two apart latest. */
    private static final class Comparer {
        final Splitter splitter;
        final Tree tree;
        final Shown first = new Shown();
        final Shown second = new Shown();
        final Parting firstParting = new Parting();
        final Parting secondParting = new Parting();
        final Name firstName = new Name();
        final Name secondName = new Name();
        final int[] difference = new int[3];
        boolean isToldApart;

        Comparer(Splitter splitter, Tree tree) {
            this.splitter = splitter;
            this.tree = tree;
        }

        void take(Net net, Net other) {
            first.take(net);
            second.take(other);
        }

        boolean findNames() {
            return tree.findName(first, firstName) && tree.findName(second, secondName);
        }

        boolean isOneName() {
            return firstName.differsAt(secondName) < 0;
        }

        /** What unlike() answers. */
        int tellApart() {
            if (first.things != second.things) {
                keepDifference(0, first.things, second.things);
                return 1;
            }
            splitter.begin(firstParting, first);
            splitter.begin(secondParting, second);
            if (isToldByKeys()) return 2;
            if (isToldByHeaps()) return 3;
            if (!findNames()) return FULL;
            return isToldByNames() ? 4 : 0;
        }

        void keepDifference(int at, int ofFirst, int ofSecond) {
            difference[0] = at;
            difference[1] = ofFirst;
            difference[2] = ofSecond;
            isToldApart = true;
        }

        boolean isToldByKeys() {
            for (int p = 0; p < first.things; p++) {
                int ofFirst = first.keys[firstParting.order[p]];
                int ofSecond = second.keys[secondParting.order[p]];
                if (ofFirst != ofSecond) {
                    keepDifference(p, ofFirst, ofSecond);
                    return true;
                }
            }
            return false;
        }

        boolean isToldByHeaps() {
            int heaps = Math.min(firstParting.heaps, secondParting.heaps);
            for (int h = 0; h < heaps; h++) {
                if (firstParting.size[h] != secondParting.size[h]) {
                    keepDifference(h, firstParting.size[h], secondParting.size[h]);
                    return true;
                }
            }
            return false;
        }

        boolean isToldByNames() {
            int at = firstName.differsAt(secondName);
            if (at < 0) return false;
            keepDifference(at, firstName.row[at], secondName.row[at]);
            return true;
        }
    }

    /** What things go to, by their numbers; -1: that thing is not in it. */
    private static final class Turning {
        boolean isThere;
        final int[] to = new int[MOST];

        void begin() {
            isThere = true;
            for (int i = 0; i < MOST; i++) to[i] = NONE;
        }

        /** What takes the things of one name, in their order, to those of another one. */
        void takeOrders(Name first, Name second) {
            begin();
            for (int p = 0; p < first.things; p++) to[first.order[p]] = second.order[p];
        }

        /** Takes the turning of shown things that stands in a row from a place on. */
        void take(Shown shown, int[] images, int from) {
            begin();
            for (int x = 0; x < shown.things; x++) to[shown.number[x]] = shown.number[images[from + x]];
        }

        boolean leadsFrom(int i) {
            return isThere && isBelow(i, MOST) && to[i] != NONE;
        }

        /** Whether it leads from just the things of another one to just those. */
        boolean isWithin(Turning other) {
            if (!isThere) return false;
            for (int i = 0; i < MOST; i++) {
                if (leadsFrom(i) != other.leadsFrom(i)) return false;
                if (leadsFrom(i) && !other.leadsFrom(to[i])) return false;
            }
            return true;
        }

        void goOnBy(Turning next) {
            for (int i = 0; i < MOST; i++) if (leadsFrom(i) && next.leadsFrom(to[i])) to[i] = next.to[to[i]];
        }
    }

    /** Finds turnings of shown things to themselves. */
    private static final class Turner {
        final Splitter splitter;
        final Parting[] ahead = makePartings(MOST + 1);
        final Parting[] here = makePartings(MOST + 1);
        final Parting[] there = makePartings(MOST + 1);
        final int[] image = new int[MOST];
        final int[] makers = new int[MOST * MOST];
        int makerCount;
        final int[] group = new int[MOST];
        final int[] chain = new int[MOST];
        Shown shown;

        Turner(Splitter splitter) {
            this.splitter = splitter;
        }

        /** Finds the least turning, if there is one, that takes x to y. */
        boolean findLeast(Shown things, int x, int y) {
            shown = things;
            splitter.begin(ahead[0], shown);
            return isLed(ahead[0], x, y);
        }

        /** Finds the makers; on the way the chain, and which things are in one group by all turnings. */
        void findMakers(Shown things) {
            shown = things;
            markAhead();
            makerCount = 0;
            for (int x = 0; x < shown.things; x++) group[x] = x;
            for (int x = shown.things - 1; x >= 0; x--) {
                for (int y = x + 1; y < shown.things; y++) {
                    if (group[y] != group[x] && isLed(ahead[x], x, y)) addMaker();
                }
                chain[x] = countReached(x);
            }
        }

        /** Number k of the partings ahead has the things 0 .. k - 1 marked. */
        void markAhead() {
            splitter.begin(ahead[0], shown);
            for (int x = 0; x < shown.things; x++) {
                ahead[x + 1].become(ahead[x]);
                ahead[x + 1].setApart(x);
                splitter.settle(ahead[x + 1], shown);
            }
        }

        // Each maker makes one group of at least two: there are fewer makers than things.
        void addMaker() {
            if (makerCount >= MOST) return;
            System.arraycopy(image, 0, makers, makerCount * MOST, MOST);
            makerCount++;
            for (int x = 0; x < shown.things; x++) joinGroups(group[x], group[image[x]]);
        }

        void joinGroups(int kept, int joined) {
            for (int x = 0; x < shown.things; x++) if (group[x] == joined) group[x] = kept;
        }

        int countReached(int x) {
            int all = 0;
            for (int y = 0; y < shown.things; y++) if (group[y] == group[x]) all++;
            return all;
        }

        /** Whether a turning takes x to y and leaves what is marked where it is; image is the least one then. */
        boolean isLed(Parting marked, int x, int y) {
            if (marked.heap[x] != marked.heap[y]) return false;
            markInto(here[0], marked, x);
            markInto(there[0], marked, y);
            return extend(this, 0);
        }

        void markInto(Parting result, Parting from, int x) {
            result.become(from);
            result.setApart(x);
            splitter.settle(result, shown);
        }

        // Turnings keep what splitting tells: heaps of other sizes here and there lead to none.
        private static boolean extend(Turner turner, int level) {
            Parting left = turner.here[level];
            Parting right = turner.there[level];
            if (!left.hasHeapsLike(right)) return false;
            int x = left.firstNotAlone();
            if (x < 0) return turner.readImage(left, right);
            if (level >= MOST) return false;
            turner.markInto(turner.here[level + 1], left, x);
            for (int y = 0; y < right.things; y++) {
                if (right.heap[y] != left.heap[x]) continue;
                turner.markInto(turner.there[level + 1], right, y);
                if (extend(turner, level + 1)) return true;
            }
            return false;
        }

        boolean readImage(Parting left, Parting right) {
            for (int p = 0; p < left.things; p++) image[left.order[p]] = right.order[p];
            return shown.isTurning(image);
        }
    }

    /** Lists the nets of few plain things, one of each sort, by their names. */
    private static final class Lister {
        static final int MOST_LISTED = 8;
        static final int DRAWINGS = 1 << (MOST_LISTED_THINGS * (MOST_LISTED_THINGS - 1) / 2);
        final Name[] names = new Name[MOST_LISTED];
        int count;
        final boolean[] isMet = new boolean[DRAWINGS];
        final int[] sort = new int[DRAWINGS];

        Lister() {
            for (int k = 0; k < MOST_LISTED; k++) names[k] = new Name();
        }

        static int bitOf(int x, int y) {
            return Math.max(x, y) * (Math.max(x, y) - 1) / 2 + Math.min(x, y);
        }

        void make(int n, int m, Tree tree, Shown shown) {
            count = 0;
            int drawings = 1 << (n * (n - 1) / 2);
            for (int pairs = 0; pairs < drawings; pairs++) isMet[pairs] = false;
            for (int pairs = 0; pairs < drawings && count < MOST_LISTED; pairs++) {
                if (Integer.bitCount(pairs) != m || isMet[pairs]) continue;
                meetAllOfSort(n, pairs);
                shown.takePairs(n, pairs);
                if (tree.findName(shown, names[count])) putInPlace();
            }
        }

        // What comes of a drawing by exchanging neighbours, again and again, is all that is the same but for numbers.
        void meetAllOfSort(int n, int pairs) {
            sort[0] = pairs;
            isMet[pairs] = true;
            int found = 1;
            for (int k = 0; k < DRAWINGS && k < found; k++) {
                for (int x = 0; x + 1 < n; x++) {
                    int other = exchanged(n, sort[k], x);
                    if (isMet[other]) continue;
                    isMet[other] = true;
                    sort[found++] = other;
                }
            }
        }

        /** The pairs when things x and x + 1 exchange their numbers. */
        static int exchanged(int n, int pairs, int x) {
            int result = 0;
            for (int i = 1; i < n; i++) {
                for (int j = 0; j < i; j++) {
                    if ((pairs >> bitOf(i, j) & 1) == 0) continue;
                    result |= 1 << bitOf(neighbourOf(i, x), neighbourOf(j, x));
                }
            }
            return result;
        }

        static int neighbourOf(int i, int x) {
            if (i == x) return x + 1;
            return i == x + 1 ? x : i;
        }

        void putInPlace() {
            Name last = names[count];
            int at = count;
            for (; at > 0 && last.isLessThan(names[at - 1]); at--) names[at] = names[at - 1];
            names[at] = last;
            count++;
        }
    }
}
