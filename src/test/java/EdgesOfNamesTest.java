/** Promises 16 to 25 at their edges: none and twelve, the first and the last number, the largest tree that has a name. */
public final class EdgesOfNamesTest {
    private static final Check CHECK = new Check();
    private static final int BAD = -1, NOT = -2, FULL = -3;

    public static void main(String[] args) {
        splitOfNoneOneAndTwelve();
        splitAsLongAsThereAreMore();
        splitOneInEachRound();
        startByKeysLesserFirst();
        sightsByEachValue();
        sightsCountUpToTwelve();
        sightsOfHeapsInOrder();
        sightsOfTheLastHeap();
        sightsWithoutRows();
        sightsOfShownAlone();
        markTwelve();
        markOfTwo();
        markByTheTimeOfSplit();
        partingIsReplaced();
        nameOfNoneOneAndTwelve();
        nameOfTwins();
        nameOfLikeThingsThatAreNoTwins();
        nameBelow3000();
        nameAbove3000();
        nameIsReplaced();
        orderIsOfTheFirstLeaf();
        notRight();
        sameByOneDifference();
        sameOfOneMore();
        sameOfHidden();
        sameTakesOrderToOrder();
        sameFull();
        unlikeTellsTheFirst();
        unlikeByEachKey();
        unlikeFullIfNothingElseTells();
        unlikeOfLastNumbers();
        whyOfTheLatest();
        CHECK.end("EdgesOfNamesTest");
    }

    private static void due(String what, long got, long want) {
        CHECK.due(what, got, want);
    }

    private static void dueHeaps(String what, SameBench x, int... heaps) {
        for (int i = 0; i < heaps.length; i++) due(what + ", heap of " + i, x.heapOf(i), heaps[i]);
    }

    /** One-way rounds of these lengths in a graph. */
    private static void rounds(SameBench x, int graph, int... lengths) {
        int n = 0;
        for (int length : lengths) n += length;
        Nets.things(x, graph, n);
        int first = 0;
        for (int length : lengths) {
            for (int k = 0; k < length; k++) x.place(graph, first + k, first + (k + 1) % length, 1);
            first += length;
        }
    }

    private static void splitOfNoneOneAndTwelve() {
        SameBench x = new SameBench();
        due("16: none", x.split(7), 0);
        x.thing(7, 4, 0, 0);
        due("16: none SHOWN", x.split(7), 0);
        due("18: in no HEAP", x.heapOf(0), BAD);
        x.thing(7, 0, 0, 0);
        due("16: one", x.split(7), 1);
        dueHeaps("16: one", x, BAD, 0);
        for (int i = 0; i < 12; i++) x.thing(0, 0, 0, 0);
        due("16: twelve alike", x.split(0), 1);
        dueHeaps("16: twelve alike", x, 0, 0, 0, 0, 0, 0, 0, 0, 0, 0, 0, 0, BAD);
        for (int i = 0; i < 12; i++) x.thing(1, 1, 0, 11 - i);
        due("16: twelve of other KEYS", x.split(1), 12);
        dueHeaps("16: twelve of other KEYS", x, 11, 10, 9, 8, 7, 6, 5, 4, 3, 2, 1, 0, BAD);
    }

    private static void splitAsLongAsThereAreMore() {
        SameBench x = new SameBench();
        Nets.path(x, 0, 12);
        due("16: six rounds", x.split(0), 6);
        dueHeaps("16: six rounds", x, 0, 5, 1, 4, 2, 3, 3, 2, 4, 1, 5, 0);
        Nets.path(x, 1, 11);
        due("16: path of 11", x.split(1), 6);
    }

    /** A path from what a COLOUR tells apart to a line to itself: each round tells but the next thing from the rest. */
    private static void splitOneInEachRound() {
        SameBench x = new SameBench();
        Nets.path(x, 0, 12);
        x.colour(0, 0, 1);
        x.place(0, 11, 11, 1);
        due("16: ten rounds", x.split(0), 12);
        dueHeaps("16: ten rounds", x, 11, 0, 10, 1, 9, 2, 8, 3, 7, 4, 6, 5);
        x.colour(0, 0, 0);
        x.place(0, 0, 0, 1);
        due("16: a path from one line to itself to the other", x.split(0), 1);
        due("17: eleven rounds", x.mark(0), 12);
        dueHeaps("17: eleven rounds", x, 0, 11, 1, 10, 2, 9, 3, 8, 4, 7, 5, 6);
    }

    private static void startByKeysLesserFirst() {
        SameBench x = new SameBench();
        int[][] kindColourWord = {
            {3, 0, 50}, {2, 9, 99}, {2, 0, 0}, {1, 9, 98}, {1, 0, 1}, {0, 9, 0}, {0, 0, 0}, {1, 0, 50}, {0, 8, 0},
        };
        for (int[] a : kindColourWord) x.thing(0, a[0], a[1], a[2]);
        due("16: nine KEYS", x.split(0), 9);
        dueHeaps("16: nine KEYS", x, 8, 7, 6, 5, 3, 2, 0, 4, 1);
    }

    /** Two things, one with a line of v to itself: it comes behind the other, ahead of one with a lesser v. */
    private static void sightsByEachValue() {
        for (int v = 1; v <= 9; v++) {
            SameBench x = new SameBench();
            Nets.things(x, 0, 2);
            x.place(0, 0, 0, v);
            due("16: a LINE of " + v, x.split(0), 2);
            dueHeaps("16: the lesser first, " + v, x, 1, 0);
            if (v == 9) continue;
            x.place(0, 1, 1, v + 1);
            due("16: LINES of " + v + " and more", x.split(0), 2);
            dueHeaps("16: the first number that differs, " + v, x, 1, 0);
        }
    }

    private static void sightsCountUpToTwelve() {
        for (int v = 2; v <= 9; v++) {
            SameBench x = new SameBench();
            Nets.things(x, 0, 12);
            for (int j = 0; j < 12; j++) x.place(0, 3, j, v);
            x.place(0, 7, 0, v - 1);
            x.split(0);
            due("16: twelve of " + v + " behind eleven of none", x.heapOf(3) > x.heapOf(9) ? 1 : 0, 1);
            due("16: twelve of " + v + " ahead of one of a lesser", x.heapOf(3) < x.heapOf(7) ? 1 : 0, 1);
            for (int j = 0; j < 11; j++) x.place(0, 7, j, v);
            x.split(0);
            due("16: twelve behind eleven", x.heapOf(3) > x.heapOf(7) ? 1 : 0, 1);
        }
    }

    private static void sightsOfHeapsInOrder() {
        SameBench x = new SameBench();
        Nets.things(x, 0, 4);
        x.colour(0, 2, 1);
        x.colour(0, 3, 2);
        x.place(0, 0, 2, 9);
        x.place(0, 1, 3, 1);
        due("16: an earlier HEAP ahead of a lesser v", x.split(0), 4);
        dueHeaps("16: an earlier HEAP ahead of a lesser v", x, 1, 0, 2, 3);
        Nets.things(x, 1, 4);
        x.colour(1, 2, 1);
        x.colour(1, 3, 2);
        x.place(1, 2, 0, 1);
        x.place(1, 1, 3, 9);
        due("16: LINES from a THING ahead of those to it", x.split(1), 4);
        dueHeaps("16: LINES from a THING ahead of those to it", x, 0, 1, 2, 3);
        Nets.things(x, 2, 4);
        x.colour(2, 2, 1);
        x.colour(2, 3, 2);
        x.place(2, 2, 0, 9);
        x.place(2, 3, 1, 1);
        due("16: LINES to a THING, by HEAPS", x.split(2), 4);
        dueHeaps("16: LINES to a THING, by HEAPS", x, 1, 0, 2, 3);
        Nets.things(x, 3, 3);
        x.colour(3, 2, 1);
        x.place(3, 2, 0, 4);
        x.place(3, 2, 1, 5);
        due("16: LINES to a THING, by v", x.split(3), 3);
        dueHeaps("16: LINES to a THING, by v", x, 1, 0, 2);
    }

    /** Eleven heaps: two things are told apart by one line, from the last one or to it. */
    private static void sightsOfTheLastHeap() {
        for (int way = 0; way < 2; way++) {
            SameBench x = new SameBench();
            for (int i = 0; i < 12; i++) x.thing(1, i < 2 ? 0 : 1, 0, i);
            for (int i = 0; i < 12; i++) x.row(1, i, 12);
            due("16: eleven HEAPS", x.split(1), 11);
            if (way == 0) x.place(1, 0, 11, 3);
            else x.place(1, 11, 0, 3);
            due("16: twelve by the last HEAP", x.split(1), 12);
            dueHeaps("16: twelve by the last HEAP", x, 1, 0, 2, 3, 4, 5, 6, 7, 8, 9, 10, 11);
        }
    }

    private static void sightsWithoutRows() {
        SameBench x = new SameBench();
        for (int i = 0; i < 4; i++) x.thing(0, 0, 0, 0);
        x.row(0, 1, 12);
        x.row(0, 2, 0);
        x.row(0, 3, 1);
        due("16: no ROW, and ROWS without a LINE", x.split(0), 1);
        due("26: no ROW, and ROWS without a LINE", x.turnings(0), 24);
        x.place(0, 3, 0, 1);
        due("16: a ROW cut short", x.split(0), 3);
        dueHeaps("16: a ROW cut short", x, 1, 0, 0, 2);
    }

    private static void sightsOfShownAlone() {
        SameBench x = new SameBench();
        for (int i = 0; i < 4; i++) x.thing(0, i == 1 ? 4 : 0, 0, 0);
        for (int i = 0; i < 4; i++) x.row(0, i, 4);
        x.place(0, 0, 1, 1);
        x.place(0, 1, 2, 2);
        due("16: LINES of HIDDEN ones tell nothing", x.split(0), 1);
        dueHeaps("16: HIDDEN ones are in no HEAP", x, 0, BAD, 0, 0);
        x.place(0, 0, 3, 1);
        due("16: those of SHOWN ones do", x.split(0), 3);
        dueHeaps("16: those of SHOWN ones do", x, 2, BAD, 0, 1);
    }

    private static void markTwelve() {
        SameBench x = new SameBench();
        for (int i = 0; i < 12; i++) x.thing(0, 0, 0, 0);
        x.split(0);
        for (int i = 11; i >= 1; i--) {
            due("17: one HEAP more", x.mark(i), 13 - i);
            due("17: just ahead of the rest", x.heapOf(i), 11 - i);
            due("17: the rest", x.heapOf(0), 12 - i);
        }
        for (int i = 0; i < 12; i++) {
            due("17: no rest, no more", x.mark(i), 12);
            due("17: all stay", x.heapOf(i), 11 - i);
        }
    }

    private static void markOfTwo() {
        SameBench x = new SameBench();
        Nets.things(x, 0, 5);
        for (int i = 0; i < 5; i++) x.colour(0, i, i / 2);
        due("16: heaps of 2, 2, 1", x.split(0), 3);
        due("17: the one HEAP of one", x.mark(4), 3);
        due("17: the last of two", x.mark(3), 4);
        dueHeaps("17: the last of two", x, 0, 0, 2, 1, 3);
        due("17: the rest of two is alone", x.mark(2), 4);
        due("17: the first of two", x.mark(0), 5);
        dueHeaps("17: the first of two", x, 0, 1, 3, 2, 4);
    }

    private static void markByTheTimeOfSplit() {
        SameBench x = new SameBench();
        Nets.ring(x, 0, 5);
        x.split(0);
        x.thing(0, 0, 0, 0);
        due("17: a later THING is in no HEAP", x.mark(5), BAD);
        due("18: a later THING is in no HEAP", x.heapOf(5), BAD);
        x.swap(0, 0, 5);
        for (int i = 0; i < 6; i++) x.unrow(0, i);
        x.drop(0);
        due("17: LINES are those of split()'s time", x.mark(0), 3);
        dueHeaps("17: LINES are those of split()'s time", x, 0, 2, 1, 1, 2);
        due("17: the same GRAPH anew", x.split(0), 0);
        due("17: in no HEAP now", x.mark(0), BAD);
    }

    private static void partingIsReplaced() {
        SameBench x = new SameBench();
        Nets.things(x, 0, 3);
        Nets.path(x, 1, 3);
        x.split(0);
        x.mark(1);
        due("16: of another GRAPH", x.split(1), 2);
        dueHeaps("16: of another GRAPH", x, 0, 1, 0);
        due("17: in that", x.mark(2), 3);
        dueHeaps("17: in that", x, 1, 2, 0);
        due("16: unmarked again", x.split(1), 2);
        due("16: a refused split() leaves it", x.split(8), BAD);
        dueHeaps("16: unmarked again", x, 0, 1, 0);
    }

    private static void nameOfNoneOneAndTwelve() {
        SameBench x = new SameBench();
        due("19: none", x.name(7), 1);
        due("22: none", x.nodes(), 1);
        due("20: one number", x.nameAt(-1), 1);
        due("20: how many THINGS", x.nameAt(0), 0);
        due("20: no more", x.nameAt(1), BAD);
        due("21: none", x.order(0), BAD);
        x.thing(7, 0, 9, 0);
        x.row(7, 0, 1);
        x.place(7, 0, 0, 8);
        due("19: one", x.name(7), 1);
        due("22: one", x.nodes(), 1);
        int[] row = {1, 9, 8};
        due("20: three numbers", x.nameAt(-1), 3);
        for (int k = 0; k < 3; k++) due("20: number " + k, x.nameAt(k), row[k]);
        due("21: one", x.order(0), 0);
        due("21: no more", x.order(1), BAD);
        for (int i = 0; i < 12; i++) x.thing(0, 0, i < 6 ? 3 : 2, 0);
        x.row(0, 5, 12);
        x.place(0, 5, 5, 7);
        due("19: twelve", x.name(0), 1);
        due("20: 157 numbers", x.nameAt(-1), 157);
        due("20: the first", x.nameAt(0), 12);
        due("20: the first KEY", x.nameAt(1), 2);
        due("20: the last KEY", x.nameAt(12), 3);
        due("20: the last number", x.nameAt(156), 7);
        due("20: behind the last", x.nameAt(157), BAD);
        due("20: how many, below", x.nameAt(-2), BAD);
        due("21: the first", x.order(0), 6);
        due("21: the last", x.order(11), 5);
        due("21: behind the last", x.order(12), BAD);
    }

    private static void nameOfTwins() {
        SameBench x = new SameBench();
        for (int i = 0; i < 12; i++) x.thing(0, 0, 0, 0);
        due("19: TWINS but once", x.name(0), 1);
        due("22: eleven marks", x.nodes(), 12);
        for (int p = 0; p < 12; p++) due("21: in order of numbers", x.order(p), p);
        Nets.things(x, 1, 3);
        Nets.bothWays(x, 1, 0, 1);
        Nets.bothWays(x, 1, 1, 2);
        Nets.bothWays(x, 1, 0, 2);
        due("19: LINES between TWINS", x.name(1), 1);
        Nets.things(x, 2, 3);
        for (int i = 0; i < 3; i++) x.place(2, i, (i + 1) % 3, 1);
        due("19: LINES one way: no TWINS", x.name(2), 3);
        due("22: LINES one way: no TWINS", x.nodes(), 4);
        rounds(x, 3, 2, 2);
        due("19: a TWIN in each of two rounds", x.name(3), 2);
        due("22: a TWIN in each of two rounds", x.nodes(), 5);
    }

    /** Two of colour 0, each with a line to or from one of two of colour 1: to exchange two alone is no TURNING. */
    private static void nameOfLikeThingsThatAreNoTwins() {
        for (int first = 0; first <= 2; first += 2) {
            for (int way = 0; way < 2; way++) {
                SameBench x = new SameBench();
                Nets.things(x, 0, 4);
                int other = 2 - first;
                for (int k = 0; k < 2; k++) {
                    x.colour(0, other + k, 1);
                    if (way == 0) x.place(0, first + k, other + k, 1);
                    else x.place(0, other + k, first + k, 1);
                }
                due("16: two HEAPS of two", x.split(0), 2);
                due("19: no TWINS, two LEAVES", x.name(0), 2);
                due("22: no TWINS, three NODES", x.nodes(), 3);
                if (way == 0) x.place(0, first, other + 1, 1);
                else x.place(0, other + 1, first, 1);
                if (way == 0) x.place(0, first + 1, other, 1);
                else x.place(0, other, first + 1, 1);
                due("19: TWINS, one LEAF", x.name(0), 1);
                due("22: TWINS, three NODES", x.nodes(), 3);
            }
        }
    }

    /** 7 rounds, 2 of them alike for being of one thing: 7! / 2! leaves. No net was found with more that has a name. */
    private static void nameBelow3000() {
        SameBench x = new SameBench();
        rounds(x, 0, 2, 2, 2, 2, 2, 1, 1);
        due("19: 2520", x.name(0), 2520);
        due("20: it has a NAME", x.nameAt(-1), 157);
        due("23: it has the same as itself", x.same(0, 0), 1);
        due("24: nothing tells it apart", x.unlike(0, 0), 0);
        rounds(x, 1, 3, 2, 2, 2, 1, 1, 1);
        due("19: 2520 of other rounds", x.name(1), 2520);
        due("23: not the same", x.same(0, 1), 0);
        due("24: told by a number of their NAMES", x.unlike(0, 1), 4);
        rounds(x, 2, 3, 3, 3, 3);
        due("19: 1944", x.name(2), 1944);
        due("23: another one", x.same(0, 2), 0);
    }

    /** 3240 leaves; none was found with fewer that has more than 3000. */
    private static void nameAbove3000() {
        int[][] many = {{3, 3, 3, 2, 1}, {3, 3, 3, 1, 1, 1}, {3, 3, 2, 2, 1, 1}};
        for (int[] lengths : many) {
            SameBench x = new SameBench();
            x.name(1);
            rounds(x, 0, lengths);
            due("19: FULL", x.name(0), FULL);
            due("20: there is none at hand then", x.nameAt(-1), BAD);
            due("20: no number", x.nameAt(0), BAD);
            due("21: no THING", x.order(0), BAD);
            due("22: no NODES", x.nodes(), BAD);
            due("19: FULL again", x.name(0), FULL);
            x.colour(0, 11, 1);
            due("19: less with a COLOUR", x.name(0) > 0 ? 1 : 0, 1);
            due("20: at hand again", x.nameAt(-1), 157);
        }
    }

    private static void nameIsReplaced() {
        SameBench x = new SameBench();
        Nets.path(x, 0, 4);
        Nets.things(x, 1, 1);
        x.name(0);
        due("20: of 4", x.nameAt(-1), 21);
        x.name(1);
        due("20: of 1", x.nameAt(-1), 3);
        due("20: the longer one is gone", x.nameAt(3), BAD);
        due("21: the longer one is gone", x.order(1), BAD);
        x.colour(1, 0, 7);
        due("20: at hand, as it was", x.nameAt(1), 0);
        Nets.notRight(x, 2);
        x.name(2);
        x.name(-1);
        due("20: refused, so it stays", x.nameAt(-1), 3);
    }

    /** Where all leaves have one row, the order is that of the first. */
    private static void orderIsOfTheFirstLeaf() {
        SameBench x = new SameBench();
        Nets.ring(x, 0, 5);
        due("19: ten LEAVES, all of one ROW", x.name(0), 10);
        int[] order = {0, 2, 3, 4, 1};
        for (int p = 0; p < 5; p++) due("21: the first of them, " + p, x.order(p), order[p]);
        rounds(x, 1, 3);
        due("19: three LEAVES, all of one ROW", x.name(1), 3);
        due("21: the first has 0 ahead", x.order(0), 0);
    }

    private static void notRight() {
        SameBench x = new SameBench();
        x.thing(0, 2, 0, 1);
        due("19: RIGHT", x.name(0), 1);
        x.thing(0, 1, 0, 1);
        due("19: not RIGHT", x.name(0), NOT);
        due("23: not RIGHT", x.same(0, 1), NOT);
        due("24: not RIGHT", x.unlike(1, 0), NOT);
        due("26: not RIGHT", x.turnings(0), NOT);
        due("27: not RIGHT", x.chain(0, 0), NOT);
        due("28: not RIGHT", x.where(0, 0, 0), NOT);
        due("29: not RIGHT", x.orbit(0, 0), NOT);
        due("31: not RIGHT", x.makers(0), NOT);
        due("16: what needs no TREE", x.split(0), 2);
        due("17: what needs no TREE", x.mark(0), 2);
        x.word(0, 1, 2);
        due("19: RIGHT again", x.name(0), 1);
        due("26: RIGHT again", x.turnings(0), 1);
        due("27: RIGHT again", x.chain(0, 1), 1);
        due("28: RIGHT again", x.where(0, 0, 0), 1);
        due("29: RIGHT again", x.orbit(0, 1), 1);
        due("31: RIGHT again", x.makers(0), 0);
    }

    private static void sameByOneDifference() {
        SameBench x = new SameBench();
        Nets.ring(x, 0, 6);
        x.twin(0, 1);
        due("23: twins", x.same(0, 1), 1);
        Photo.Call[] changes = {
            y -> y.colour(1, 5, 1), y -> y.place(1, 5, 0, 2), y -> y.place(1, 5, 5, 1), y -> y.place(1, 0, 3, 9),
            y -> y.thing(1, 0, 0, 0), y -> y.unrow(1, 4), y -> y.row(1, 5, 5),
        };
        for (int k = 0; k < changes.length; k++) {
            changes[k].on(x);
            due("23: after change " + k, x.same(0, 1), 0);
            due("23: the other way, after change " + k, x.same(1, 0), 0);
            due("24: after change " + k, x.unlike(0, 1) > 0 ? 1 : 0, 1);
            x.undo();
            due("23: as before change " + k, x.same(0, 1), 1);
            due("24: as before change " + k, x.unlike(0, 1), 0);
        }
        x.thing(1, 4, 5, 0);
        due("23: a HIDDEN one more", x.same(0, 1), 1);
        x.row(1, 6, 12);
        x.place(1, 6, 0, 3);
        due("23: LINES of a HIDDEN one", x.same(0, 1), 1);
        due("24: LINES of a HIDDEN one", x.unlike(0, 1), 0);
    }

    /** Things without a line: all their numbers are 0, but for how many there are. */
    private static void sameOfOneMore() {
        SameBench x = new SameBench();
        for (int n = 0; n < 12; n++) {
            x.thing(0, 0, 0, 0);
            due("23: one more than " + n, x.same(0, 1), 0);
            due("23: one less than " + (n + 1), x.same(1, 0), 0);
            due("24: one more than " + n, x.unlike(0, 1), 1);
            due("25: one more than " + n, x.why(1) - x.why(2), 1);
            x.thing(1, 0, 0, 0);
            due("23: as many", x.same(0, 1), 1);
            due("24: as many", x.unlike(0, 1), 0);
        }
    }

    private static void sameOfHidden() {
        SameBench x = new SameBench();
        x.thing(0, 4, 0, 0);
        due("23: none SHOWN and none", x.same(0, 7), 1);
        due("30: a HIDDEN one is not in it", x.by(0), BAD);
        x.thing(0, 0, 3, 0);
        x.thing(7, 0, 3, 0);
        due("23: one each", x.same(0, 7), 1);
        due("30: a HIDDEN one is not in it", x.by(0), BAD);
        due("30: the SHOWN one", x.by(1), 0);
        due("23: the other way", x.same(7, 0), 1);
        due("30: to the SHOWN one", x.by(0), 1);
        due("30: one that is not in it", x.by(1), BAD);
    }

    private static void sameTakesOrderToOrder() {
        SameBench x = new SameBench();
        for (int i = 0; i < 12; i++) {
            x.thing(0, 1, 0, i);
            x.thing(7, 1, 0, 11 - i);
        }
        due("23: twelve", x.same(0, 7), 1);
        for (int i = 0; i < 12; i++) due("30: by KEYS", x.by(i), 11 - i);
        due("30: no more", x.by(12), BAD);
        x.drop(0);
        x.drop(7);
        due("30: it stays at hand", x.by(11), 0);
    }

    private static void sameFull() {
        SameBench x = new SameBench();
        rounds(x, 0, 3, 3, 3, 2, 1);
        rounds(x, 1, 3, 3, 3, 3);
        due("23: the first is FULL", x.same(0, 1), FULL);
        due("23: the second is FULL", x.same(1, 0), FULL);
        due("23: both are FULL", x.same(0, 0), FULL);
        due("30: no TURNING", x.by(0), BAD);
        due("23: none is FULL", x.same(1, 1), 1);
        due("30: now", x.by(11), 11);
    }

    /** Each pair of nets differs in all that comes behind, too. */
    private static void unlikeTellsTheFirst() {
        SameBench x = new SameBench();
        Nets.path(x, 0, 3);
        x.colour(0, 0, 5);
        Nets.things(x, 1, 4);
        due("24: how many ahead of KEYS", x.unlike(0, 1), 1);
        due("25: how many, where", x.why(0), 0);
        due("25: how many, the first", x.why(1), 3);
        due("25: how many, the second", x.why(2), 4);
        Nets.path(x, 2, 4);
        x.colour(2, 3, 1);
        due("24: a KEY ahead of HEAPS", x.unlike(2, 1), 2);
        due("25: a KEY, where", x.why(0), 3);
        due("25: a KEY, the first", x.why(1), 1);
        due("25: a KEY, the second", x.why(2), 0);
        x.colour(2, 3, 0);
        due("24: HEAPS ahead of NAMES", x.unlike(1, 2), 3);
        due("25: HEAPS, where", x.why(0), 0);
        due("25: HEAPS, the first", x.why(1), 4);
        due("25: HEAPS, the second", x.why(2), 2);
        rounds(x, 3, 3, 3);
        rounds(x, 4, 6);
        due("24: at last a number of NAMES", x.unlike(3, 4), 4);
        due("24: nothing", x.unlike(4, 4), 0);
        due("25: that of NAMES stays", x.why(0) >= 7 ? 1 : 0, 1);
    }

    private static void unlikeByEachKey() {
        for (int at = 0; at < 12; at++) {
            SameBench x = new SameBench();
            for (int i = 0; i < 12; i++) x.thing(0, 1, 0, 2 * (11 - i));
            x.twin(0, 1);
            x.word(1, 11 - at, 2 * at + 1);
            due("24: KEY " + at, x.unlike(0, 1), 2);
            due("25: KEY " + at + ", where", x.why(0), at);
            due("25: KEY " + at + ", the first", x.why(1), 10 * (2 * at + 1));
            due("25: KEY " + at + ", the second", x.why(2), 10 * (2 * at + 2));
        }
    }

    private static void unlikeFullIfNothingElseTells() {
        SameBench x = new SameBench();
        rounds(x, 0, 3, 3, 3, 2, 1);
        rounds(x, 1, 3, 3, 3, 3);
        Nets.things(x, 2, 11);
        due("24: FULL, the first", x.unlike(0, 1), FULL);
        due("24: FULL, the second", x.unlike(1, 0), FULL);
        due("25: none told", x.why(0), BAD);
        due("24: not if 1 tells", x.unlike(0, 2), 1);
        due("25: 1 told", x.why(1), 12);
        due("24: FULL, both", x.unlike(0, 0), FULL);
        due("25: that stays", x.why(2), 11);
        x.colour(1, 4, 1);
        due("24: not if 2 tells", x.unlike(0, 1), 2);
        due("25: 2 told", x.why(0), 11);
        x.undo();
        x.place(1, 5, 5, 1);
        due("24: not if 3 tells", x.unlike(1, 0), 3);
        due("25: 3 told", x.why(2), 12);
    }

    private static void unlikeOfLastNumbers() {
        SameBench x = new SameBench();
        for (int i = 0; i < 12; i++) x.thing(0, 1, 0, i);
        x.row(0, 11, 12);
        x.place(0, 11, 11, 4);
        x.twin(0, 1);
        x.place(1, 11, 11, 6);
        due("24: the last number", x.unlike(0, 1), 4);
        due("25: the last number, where", x.why(0), 156);
        due("25: the last number, the first", x.why(1), 4);
        due("25: the last number, the second", x.why(2), 6);
        x.row(0, 0, 1);
        x.place(0, 0, 0, 1);
        due("24: the first LINE", x.unlike(0, 1), 4);
        due("25: the first LINE, where", x.why(0), 13);
        due("25: the first LINE, the first", x.why(1), 1);
        due("25: the first LINE, the second", x.why(2), 0);
    }

    private static void whyOfTheLatest() {
        SameBench x = new SameBench();
        Nets.things(x, 0, 1);
        Nets.things(x, 1, 2);
        Nets.notRight(x, 2);
        due("25: none yet", x.why(0), BAD);
        due("24: nothing", x.unlike(0, 0), 0);
        due("25: still none", x.why(0), BAD);
        x.unlike(0, 1);
        x.unlike(0, 0);
        x.unlike(0, 2);
        x.unlike(0, 8);
        due("25: the latest that told, first", x.why(1), 1);
        due("25: the latest that told, second", x.why(2), 2);
        x.unlike(1, 0);
        x.drop(1);
        due("25: a later one, first", x.why(1), 2);
        due("25: a later one, second", x.why(2), 1);
        due("25: no number 3", x.why(3), BAD);
        due("25: no number -1", x.why(-1), BAD);
    }
}
