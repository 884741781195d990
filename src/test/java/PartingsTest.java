/** Promises 16 to 25. */
public final class PartingsTest {
    private static final Check CHECK = new Check();
    private static final int BAD = -1, NOT = -2, FULL = -3;

    public static void main(String[] args) {
        splitOfPath();
        sightsInOrder();
        splitByKeys();
        splitOfFewAndNotRight();
        mark();
        markByLinesOfThen();
        heapOfRefused();
        nameOfPath();
        nameOfRing();
        nameOfNone();
        nameOfRounds();
        nameRefused();
        nameFull();
        same();
        sameRefused();
        unlikeByCount();
        unlikeByKeys();
        unlikeByHeaps();
        unlikeByNames();
        unlikeRefused();
        CHECK.end("PartingsTest");
    }

    private static void due(String what, long got, long want) {
        CHECK.due(what, got, want);
    }

    private static void dueHeaps(String what, SameBench x, int... heaps) {
        for (int i = 0; i < heaps.length; i++) due(what + ", heap of " + i, x.heapOf(i), heaps[i]);
    }

    private static void dueName(String what, SameBench x, int... name) {
        due(what + ", length", x.nameAt(-1), name.length);
        for (int k = 0; k < name.length; k++) due(what + ", number " + k, x.nameAt(k), name[k]);
        due(what + ", beyond", x.nameAt(name.length), BAD);
        due(what + ", below", x.nameAt(-2), BAD);
    }

    private static void dueOrder(String what, SameBench x, int... order) {
        for (int p = 0; p < order.length; p++) due(what + ", order " + p, x.order(p), order[p]);
        due(what + ", order beyond", x.order(order.length), BAD);
        due(what + ", order below", x.order(-1), BAD);
    }

    private static void splitOfPath() {
        SameBench x = new SameBench();
        Nets.path(x, 0, 5);
        due("16: path", x.split(0), 3);
        dueHeaps("16: path", x, 0, 2, 1, 2, 0);
        Nets.ring(x, 1, 6);
        due("16: ring", x.split(1), 1);
        dueHeaps("16: ring", x, 0, 0, 0, 0, 0, 0);
        due("16: graph", x.split(8), BAD);
        due("16: graph below", x.split(-1), BAD);
        due("16: the parting stays", x.heapOf(5), 0);
    }

    private static void sightsInOrder() {
        SameBench x = new SameBench();
        Nets.things(x, 0, 2);
        x.place(0, 0, 1, 1);
        due("16: lines from ahead of lines to", x.split(0), 2);
        dueHeaps("16: lines from ahead of lines to", x, 1, 0);
        Nets.things(x, 1, 2);
        x.place(1, 0, 0, 2);
        x.place(1, 1, 1, 1);
        due("16: 1 ahead of 2", x.split(1), 2);
        dueHeaps("16: 1 ahead of 2", x, 0, 1);
        Nets.things(x, 2, 2);
        x.place(2, 0, 1, 9);
        x.place(2, 1, 1, 9);
        due("16: by lines to alone", x.split(2), 2);
        dueHeaps("16: by lines to alone", x, 0, 1);
        Nets.things(x, 3, 4);
        for (int i = 2; i < 4; i++) x.colour(3, i, 1);
        x.place(3, 0, 2, 1);
        x.place(3, 1, 0, 2);
        due("16: heap by heap ahead of v by v", x.split(3), 4);
        dueHeaps("16: heap by heap ahead of v by v", x, 0, 1, 3, 2);
    }

    private static void splitByKeys() {
        SameBench x = new SameBench();
        x.thing(0, 3, 0, 0);
        x.thing(0, 0, 3, 0);
        x.thing(0, 4, 0, 0);
        x.thing(0, 0, 1, 0);
        x.thing(0, 2, 0, 0);
        x.thing(0, 0, 3, 0);
        due("16: keys", x.split(0), 4);
        dueHeaps("16: keys", x, 3, 1, BAD, 0, 2, 1);
    }

    private static void splitOfFewAndNotRight() {
        SameBench x = new SameBench();
        due("16: none", x.split(0), 0);
        due("17: mark none", x.mark(0), BAD);
        due("18: heap of none", x.heapOf(0), BAD);
        Nets.notRight(x, 0);
        due("16: not right", x.split(0), 1);
        due("17: not right", x.mark(0), 1);
    }

    private static void mark() {
        SameBench x = new SameBench();
        Nets.things(x, 0, 4);
        due("17: four alike", x.split(0), 1);
        due("17: one apart", x.mark(2), 2);
        dueHeaps("17: ahead of the rest", x, 1, 1, 0, 1);
        due("17: alone stays", x.mark(2), 2);
        due("17: second", x.mark(0), 3);
        dueHeaps("17: just ahead of its own heap", x, 1, 2, 0, 2);
        due("17: third", x.mark(3), 4);
        dueHeaps("17: third", x, 1, 3, 0, 2);
        Nets.ring(x, 1, 6);
        x.split(1);
        due("17: it is split then", x.mark(1), 4);
        dueHeaps("17: it is split then", x, 3, 0, 3, 1, 2, 1);
    }

    private static void markByLinesOfThen() {
        SameBench x = new SameBench();
        Nets.ring(x, 0, 4);
        x.thing(0, 4, 0, 0);
        x.split(0);
        x.place(0, 0, 1, 7);
        x.colour(0, 3, 7);
        x.drop(0);
        due("17: lines of split()'s time", x.mark(3), 3);
        dueHeaps("17: lines of split()'s time", x, 2, 1, 2, 0, BAD);
    }

    private static void heapOfRefused() {
        SameBench x = new SameBench();
        due("17: no parting", x.mark(99), NOT);
        due("18: no parting", x.heapOf(-1), NOT);
        x.thing(0, 0, 0, 0);
        x.thing(0, 4, 0, 0);
        x.split(0);
        for (int i : new int[] {-1, 1, 2, 11, 12, Integer.MAX_VALUE, Integer.MIN_VALUE}) {
            due("17: in no heap", x.mark(i), BAD);
            due("18: in no heap", x.heapOf(i), BAD);
        }
        due("18: heap", x.heapOf(0), 0);
    }

    private static void nameOfPath() {
        SameBench x = new SameBench();
        Nets.path(x, 0, 3);
        due("19: path, twins but once", x.name(0), 1);
        due("22: path", x.nodes(), 2);
        dueName("20: path", x, 3, 0, 0, 0, 0, 0, 1, 0, 0, 1, 1, 1, 0);
        dueOrder("21: path", x, 0, 2, 1);
        x.drop(0);
        due("20: it stays at hand", x.nameAt(0), 3);
    }

    private static void nameOfRing() {
        SameBench x = new SameBench();
        Nets.ring(x, 0, 4);
        due("19: ring", x.name(0), 2);
        due("22: ring", x.nodes(), 5);
        dueName("20: ring", x, 4, 0, 0, 0, 0, 0, 0, 1, 1, 0, 0, 1, 1, 1, 1, 0, 0, 1, 1, 0, 0);
        dueOrder("21: of the first leaf", x, 0, 2, 1, 3);
    }

    private static void nameOfNone() {
        SameBench x = new SameBench();
        x.thing(0, 4, 0, 0);
        due("19: none shown", x.name(0), 1);
        due("22: none shown", x.nodes(), 1);
        dueName("20: none shown", x, 0);
        dueOrder("21: none shown", x);
    }

    /** The least row is not that of the first leaf: heaps that splitting can't tell from one another. */
    private static void nameOfRounds() {
        SameBench x = new SameBench();
        Nets.things(x, 0, 7);
        int[] next = {1, 2, 0, 4, 5, 6, 3};
        for (int i = 0; i < 7; i++) x.place(0, i, next[i], 1);
        due("19: rounds of 3 and 4", x.name(0), 24);
        due("22: rounds of 3 and 4", x.nodes(), 32);
        int[] order = {3, 5, 0, 1, 2, 4, 6};
        for (int p = 0; p < 7; p++) due("21: rounds, order " + p, x.order(p), order[p]);
        for (int k = 0; k < 49; k++) {
            int want = next[order[k / 7]] == order[k % 7] ? 1 : 0;
            due("20: rounds, number " + k, x.nameAt(8 + k), want);
        }
    }

    private static void nameRefused() {
        SameBench x = new SameBench();
        due("19: of an empty one", x.name(1), 1);
        Nets.notRight(x, 0);
        due("19: not right", x.name(0), NOT);
        due("19: graph", x.name(8), BAD);
        due("19: graph below", x.name(-1), BAD);
        due("20: the name stays", x.nameAt(-1), 1);
    }

    private static void nameFull() {
        SameBench x = new SameBench();
        x.name(1);
        Nets.tooManyLeaves(x, 0);
        due("19: full", x.name(0), FULL);
        due("20: none at hand", x.nameAt(-1), BAD);
        due("20: no number", x.nameAt(0), BAD);
        due("21: none at hand", x.order(0), BAD);
        due("22: none at hand", x.nodes(), BAD);
        due("23: full", x.same(0, 1), FULL);
        due("23: full the other way", x.same(1, 0), FULL);
        due("24: told by their number", x.unlike(0, 1), 1);
        x.twin(0, 2);
        due("24: full", x.unlike(0, 2), FULL);
        due("25: of the latest that told", x.why(1), 12);
        x.colour(2, 0, 1);
        due("24: told by keys", x.unlike(0, 2), 2);
        due("26: turnings all the same", x.turnings(0), 324);
        due("19: others still have one", x.name(1), 1);
    }

    private static void same() {
        SameBench x = new SameBench();
        Nets.path(x, 0, 3);
        Nets.star(x, 1, 3);
        x.name(1);
        due("23: same", x.same(0, 1), 1);
        int[] to = {1, 0, 2};
        for (int i = 0; i < 3; i++) due("23: turning of " + i, x.by(i), to[i]);
        due("30: not in it", x.by(3), BAD);
        due("30: below", x.by(-1), BAD);
        due("30: far", x.by(12), BAD);
        due("23: the name stays", x.order(0), 1);
        x.place(1, 1, 2, 1);
        due("23: no more", x.same(0, 1), 0);
        due("23: the turning stays", x.by(0), 1);
        x.undo();
        x.thing(1, 4, 0, 0);
        due("23: but for hidden ones", x.same(0, 1), 1);
        due("23: with itself", x.same(0, 0), 1);
        due("23: stays where it is", x.by(1), 1);
        due("23: none and none", x.same(5, 6), 1);
        due("30: none in it", x.by(0), BAD);
    }

    private static void sameRefused() {
        SameBench x = new SameBench();
        Nets.notRight(x, 0);
        due("23: graph", x.same(8, 0), BAD);
        due("23: other", x.same(0, -1), BAD);
        due("23: not right", x.same(0, 1), NOT);
        due("23: other not right", x.same(1, 0), NOT);
        Nets.tooManyLeaves(x, 1);
        due("23: not ahead of full", x.same(1, 0), NOT);
        due("30: no turning", x.by(0), BAD);
    }

    private static void dueWhy(String what, SameBench x, int at, int first, int second) {
        due(what + ", where", x.why(0), at);
        due(what + ", first", x.why(1), first);
        due(what + ", second", x.why(2), second);
        due(what + ", none such", x.why(3), BAD);
        due(what + ", below", x.why(-1), BAD);
    }

    private static void unlikeByCount() {
        SameBench x = new SameBench();
        Nets.path(x, 0, 3);
        x.thing(0, 4, 0, 0);
        Nets.path(x, 1, 5);
        due("24: nothing", x.unlike(0, 0), 0);
        due("25: none yet", x.why(0), BAD);
        due("24: how many", x.unlike(0, 1), 1);
        dueWhy("25: how many shown", x, 0, 3, 5);
        Nets.path(x, 2, 3);
        due("24: hidden ones tell nothing", x.unlike(0, 2), 0);
        dueWhy("25: it stays", x, 0, 3, 5);
    }

    private static void unlikeByKeys() {
        SameBench x = new SameBench();
        int[] first = {7, 2, 5};
        int[] second = {5, 2, 6};
        for (int k = 0; k < 3; k++) {
            x.thing(0, 0, first[k], 0);
            x.thing(1, 0, second[k], 0);
        }
        x.row(0, 0, 1);
        x.place(0, 0, 0, 1);
        due("24: keys", x.unlike(0, 1), 2);
        dueWhy("25: keys by heaps", x, 2, 7, 6);
        due("24: keys the other way", x.unlike(1, 0), 2);
        dueWhy("25: keys the other way", x, 2, 6, 7);
    }

    private static void unlikeByHeaps() {
        SameBench x = new SameBench();
        Nets.path(x, 0, 4);
        Nets.star(x, 1, 4);
        due("24: heaps", x.unlike(0, 1), 3);
        dueWhy("25: heaps", x, 0, 2, 3);
        Nets.things(x, 2, 4);
        x.colour(2, 0, 9);
        x.twin(2, 3);
        x.place(3, 1, 1, 1);
        x.place(3, 2, 2, 1);
        due("24: a later heap", x.unlike(2, 3), 3);
        dueWhy("25: a later heap", x, 0, 3, 1);
        x.place(2, 3, 3, 2);
        due("24: heap by heap", x.unlike(2, 3), 3);
        dueWhy("25: heap by heap", x, 0, 2, 1);
        x.place(2, 3, 3, 0);
        x.place(2, 1, 1, 1);
        due("24: the second heap", x.unlike(3, 2), 3);
        dueWhy("25: the second heap", x, 0, 1, 2);
    }

    private static void unlikeByNames() {
        SameBench x = new SameBench();
        Nets.ring(x, 0, 3);
        x.twin(0, 1);
        for (int i = 0; i < 3; i++) x.place(1, i, i, 4);
        x.name(0);
        due("24: names", x.unlike(0, 1), 4);
        dueWhy("25: names", x, 4, 0, 4);
        due("24: the name at hand stays", x.nameAt(4), 0);
        due("24: names the other way", x.unlike(1, 0), 4);
        dueWhy("25: names the other way", x, 4, 4, 0);
    }

    private static void unlikeRefused() {
        SameBench x = new SameBench();
        Nets.notRight(x, 0);
        due("24: graph", x.unlike(-1, 0), BAD);
        due("24: other", x.unlike(0, 8), BAD);
        due("24: not right", x.unlike(0, 1), NOT);
        due("24: other not right", x.unlike(1, 0), NOT);
        due("25: none", x.why(0), BAD);
    }
}
