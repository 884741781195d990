import java.util.Map;
import java.util.function.Supplier;

/** What refused calls answer, of several refusals the first; and that they change nothing. */
public final class RefusedTest {
    private static final Check CHECK = new Check();
    private static final int BAD = -1, NOT = -2, FULL = -3, NULL = -11, INDEX = -12, CAST = -13, SIZE = -14;
    private static final int LEAST = Integer.MIN_VALUE, MOST = Integer.MAX_VALUE;
    private static final int[] NO_GRAPH = outside(0, 7);
    private static final int[] NO_THING = outside(0, 4);
    private static final int[] NOT_SHOWN = {-1, 3, 5, 11, 12, LEAST, MOST};
    private static final Map<String, String> BEFORE = Photo.after(Photo::bench, x -> 0);
    private static final Map<String, String> NEW = Photo.after(SameBench::new, x -> 0);

    public static void main(String[] args) {
        thing();
        colourAndWord();
        row();
        unrow();
        place();
        line();
        copyNames();
        copyRows();
        copyIndex();
        swapTwinDrop();
        toldAndCount();
        splitMarkHeapOf();
        nameAndItsNumbers();
        same();
        unlikeAndWhy();
        turningsAndMakers();
        chain();
        where();
        orbitAndBy();
        maker();
        then();
        list();
        listed();
        newObject();
        CHECK.end("RefusedTest");
    }

    /** The numbers next to a range, and those farthest from it. */
    private static int[] outside(int least, int most) {
        return new int[] {least - 1, most + 1, LEAST, MOST};
    }

    private static void refused(String what, long want, Photo.Call call) {
        refusedBy(Photo::bench, BEFORE, what, want, call);
    }

    private static void refusedByNew(String what, long want, Photo.Call call) {
        refusedBy(SameBench::new, NEW, what, want, call);
    }

    private static void refusedBy(Supplier<SameBench> start, Map<String, String> before, String what, long want,
            Photo.Call call) {
        CHECK.due(what, call.on(start.get()), want);
        Map<String, String> after = Photo.after(start, call);
        for (String part : Photo.PARTS) CHECK.same(what + " changes nothing of: " + part, after.get(part), before.get(part));
    }

    private static void thing() {
        for (int g : NO_GRAPH) refused("2: graph " + g, BAD, x -> x.thing(g, 0, 0, 0));
        for (int kind : outside(0, 4)) {
            refused("2: kind " + kind, BAD, x -> x.thing(0, kind, 0, 0));
            refused("2: BAD ahead of FULL, kind " + kind, BAD, x -> x.thing(3, kind, 0, 0));
        }
        for (int c : outside(0, 9)) {
            for (int kind = 0; kind < 5; kind++) {
                int k = kind;
                refused("2: colour " + c, BAD, x -> x.thing(0, k, c, 0));
            }
            refused("2: BAD ahead of FULL, colour " + c, BAD, x -> x.thing(3, 0, c, 0));
        }
        for (int w : outside(0, 99)) {
            for (int kind = 1; kind < 4; kind++) {
                int k = kind;
                refused("2: word " + w + " of kind " + k, BAD, x -> x.thing(0, k, 0, w));
                refused("2: BAD ahead of FULL, word " + w, BAD, x -> x.thing(3, k, 0, w));
            }
            refused("2: a word not looked at, FULL", FULL, x -> x.thing(3, 0, 0, w));
        }
        for (int kind = 0; kind < 5; kind++) {
            int k = kind;
            refused("2: FULL, kind " + k, FULL, x -> x.thing(3, k, 9, 99));
        }
    }

    private static void colourAndWord() {
        for (int g : NO_GRAPH) {
            refused("3: graph " + g, BAD, x -> x.colour(g, 0, 1));
            refused("4: graph " + g, BAD, x -> x.word(g, 0, 1));
        }
        for (int i : NO_THING) {
            refused("3: thing " + i, BAD, x -> x.colour(0, i, 1));
            refused("4: BAD ahead of CAST, thing " + i, BAD, x -> x.word(0, i, 1));
        }
        refused("3: the thing behind the last", BAD, x -> x.colour(1, 4, 1));
        refused("4: the thing behind the last", BAD, x -> x.word(1, 4, 1));
        refused("3: none in the graph", BAD, x -> x.colour(4, 0, 1));
        refused("4: none in the graph", BAD, x -> x.word(4, 0, 1));
        for (int c : outside(0, 9)) refused("3: colour " + c, BAD, x -> x.colour(0, 0, c));
        for (int w : outside(0, 99)) {
            for (int i = 0; i < 4; i++) {
                int k = i;
                refused("4: word " + w, BAD, x -> x.word(1, k, w));
            }
            refused("4: BAD ahead of CAST, word " + w, BAD, x -> x.word(0, 0, w));
            refused("4: BAD ahead of CAST, HIDDEN, word " + w, BAD, x -> x.word(0, 3, w));
        }
        for (int w : new int[] {0, 99}) {
            refused("4: CAST of a THING", CAST, x -> x.word(0, 0, w));
            refused("4: CAST of a HIDDEN one", CAST, x -> x.word(0, 3, w));
        }
    }

    private static void row() {
        for (int g : NO_GRAPH) {
            refused("5: graph " + g, BAD, x -> x.row(g, 0, 3));
            refused("5: BAD ahead of SIZE, graph " + g, BAD, x -> x.row(g, 0, -1));
        }
        for (int i : NO_THING) {
            refused("5: thing " + i, BAD, x -> x.row(0, i, 3));
            refused("5: BAD ahead of SIZE, thing " + i, BAD, x -> x.row(0, i, -1));
            refused("5: BAD ahead of SIZE, far below, thing " + i, BAD, x -> x.row(0, i, LEAST));
        }
        for (int i = 0; i < 5; i++) {
            int k = i;
            refused("5: n above 12", BAD, x -> x.row(0, k, 13));
            refused("5: n far above 12", BAD, x -> x.row(0, k, MOST));
            refused("5: n below 0", SIZE, x -> x.row(0, k, -1));
            refused("5: n far below 0", SIZE, x -> x.row(0, k, LEAST));
        }
    }

    private static void unrow() {
        for (int g : NO_GRAPH) refused("6: graph " + g, BAD, x -> x.unrow(g, 0));
        for (int i : NO_THING) refused("6: BAD ahead of NULL, thing " + i, BAD, x -> x.unrow(0, i));
        refused("6: NULL", NULL, x -> x.unrow(0, 2));
        refused("6: NULL of a HIDDEN one", NULL, x -> x.unrow(0, 3));
    }

    private static void place() {
        for (int g : NO_GRAPH) refused("7: graph " + g, BAD, x -> x.place(g, 0, 0, 1));
        for (int i : NO_THING) {
            refused("7: thing " + i, BAD, x -> x.place(0, i, 0, 1));
            refused("7: BAD ahead of INDEX, thing " + i, BAD, x -> x.place(0, i, -1, 1));
        }
        for (int v : outside(0, 9)) {
            refused("7: v " + v, BAD, x -> x.place(0, 0, 1, v));
            refused("7: BAD ahead of NULL, v " + v, BAD, x -> x.place(0, 2, 0, v));
            refused("7: BAD ahead of INDEX, v " + v, BAD, x -> x.place(0, 0, 5, v));
            refused("7: BAD ahead of INDEX, a ROW of none, v " + v, BAD, x -> x.place(0, 1, 0, v));
        }
        for (int j : new int[] {0, -1, 12, LEAST, MOST}) {
            refused("7: NULL, j " + j, NULL, x -> x.place(0, 2, j, 1));
            refused("7: NULL of a HIDDEN one, j " + j, NULL, x -> x.place(0, 3, j, 0));
            refused("7: INDEX, a ROW of none, j " + j, INDEX, x -> x.place(0, 1, j, 1));
        }
        for (int j : outside(0, 4)) refused("7: INDEX, j " + j, INDEX, x -> x.place(0, 0, j, 1));
        for (int j : outside(0, 11)) refused("7: INDEX, a ROW of 12, j " + j, INDEX, x -> x.place(3, 0, j, 1));
    }

    private static void line() {
        for (int g : NO_GRAPH) refused("8: graph " + g, BAD, x -> x.line(g, 0, 0));
        for (int i : NO_THING) {
            refused("8: from " + i, BAD, x -> x.line(0, i, 0));
            refused("8: to " + i, BAD, x -> x.line(0, 0, i));
            refused("8: to " + i + ", without a ROW", BAD, x -> x.line(0, 2, i));
        }
    }

    private static void copyNames() {
        for (int g : NO_GRAPH) {
            refused("9: from graph " + g, BAD, x -> x.copy(g, 0, 0, 0, 0, 0, 1));
            refused("9: to graph " + g, BAD, x -> x.copy(0, 0, 0, g, 0, 0, 1));
            refused("9: BAD ahead of NULL, graph " + g, BAD, x -> x.copy(0, 2, 0, g, 0, 0, 1));
            refused("9: BAD ahead of INDEX, graph " + g, BAD, x -> x.copy(0, 0, -1, g, 0, 0, 1));
        }
        for (int i : NO_THING) {
            refused("9: from thing " + i, BAD, x -> x.copy(0, i, 0, 0, 0, 0, 1));
            refused("9: to thing " + i, BAD, x -> x.copy(0, 0, 0, 0, i, 0, 1));
            refused("9: BAD ahead of NULL, to thing " + i, BAD, x -> x.copy(0, 2, 0, 0, i, 0, 1));
            refused("9: BAD ahead of NULL, from thing " + i, BAD, x -> x.copy(0, i, 0, 0, 2, 0, 1));
            refused("9: BAD ahead of INDEX, to thing " + i, BAD, x -> x.copy(0, 0, 0, 0, i, 0, -1));
            refused("9: BAD ahead of INDEX, from thing " + i, BAD, x -> x.copy(0, i, 0, 0, 0, 0, -1));
        }
    }

    private static void copyRows() {
        for (int n : new int[] {0, 1, -1, LEAST, MOST}) {
            refused("9: NULL, from, n " + n, NULL, x -> x.copy(0, 2, 0, 0, 0, 0, n));
            refused("9: NULL, to, n " + n, NULL, x -> x.copy(0, 0, 0, 0, 2, 0, n));
            refused("9: NULL, either, n " + n, NULL, x -> x.copy(0, 3, 0, 0, 2, 0, n));
            refused("9: NULL ahead of INDEX, from", NULL, x -> x.copy(0, 0, n - 9, 0, 2, 0, 0));
            refused("9: NULL ahead of INDEX, to", NULL, x -> x.copy(0, 2, 0, 0, 0, n - 9, 0));
        }
    }

    /** From a ROW of 5 PLACES to one of 5, to one of none, and the other way. */
    private static void copyIndex() {
        int[][] off = {
            {0, 0, -1}, {0, 0, LEAST}, {-1, 0, 1}, {LEAST, 0, 1}, {0, -1, 1}, {0, LEAST, 1}, {-1, 0, 0}, {0, -1, 0},
            {0, 0, 6}, {0, 0, MOST}, {1, 0, 5}, {0, 1, 5}, {5, 0, 1}, {0, 5, 1}, {6, 0, 0}, {0, 6, 0}, {MOST, 0, 0},
            {0, MOST, 0}, {MOST, 0, 1}, {0, MOST, 1}, {1, 1, MOST}, {MOST, MOST, MOST}, {MOST, MOST, LEAST},
            {LEAST, LEAST, LEAST}, {-1, 0, 5}, {0, -1, 5}, {LEAST, 0, MOST}, {0, LEAST, MOST}, {4, 0, 2}, {0, 4, 2},
        };
        for (int[] a : off) {
            String what = "9: INDEX, from " + a[0] + " to " + a[1] + " n " + a[2];
            refused(what, INDEX, x -> x.copy(0, 0, a[0], 7, 0, a[1], a[2]));
            refused(what + ", the same ROW", INDEX, x -> x.copy(0, 0, a[0], 0, 0, a[1], a[2]));
        }
        refused("9: INDEX, to a ROW of none", INDEX, x -> x.copy(0, 0, 0, 0, 1, 0, 1));
        refused("9: INDEX, from a ROW of none", INDEX, x -> x.copy(0, 1, 0, 0, 0, 0, 1));
        refused("9: INDEX, beyond a ROW of none", INDEX, x -> x.copy(0, 0, 0, 0, 1, 1, 0));
        refused("9: INDEX, 13 of 12", INDEX, x -> x.copy(3, 0, 0, 3, 1, 0, 13));
    }

    private static void swapTwinDrop() {
        for (int g : NO_GRAPH) {
            refused("10: graph " + g, BAD, x -> x.swap(g, 0, 0));
            refused("11: from " + g, BAD, x -> x.twin(g, 0));
            refused("11: to " + g, BAD, x -> x.twin(0, g));
            refused("11: both " + g, BAD, x -> x.twin(g, g));
            refused("12: graph " + g, BAD, x -> x.drop(g));
        }
        for (int i : NO_THING) {
            refused("10: the first, " + i, BAD, x -> x.swap(0, i, 0));
            refused("10: the second, " + i, BAD, x -> x.swap(0, 0, i));
            refused("10: both, " + i, BAD, x -> x.swap(0, i, i));
        }
    }

    private static void toldAndCount() {
        for (int g : NO_GRAPH) {
            for (int what = 0; what < 5; what++) {
                int w = what;
                refused("13: graph " + g, BAD, x -> x.told(g, 0, w));
                if (w < 4) refused("14: graph " + g, BAD, x -> x.count(g, w));
            }
        }
        for (int i : NO_THING) {
            for (int what = 0; what < 5; what++) {
                int w = what;
                refused("13: thing " + i, BAD, x -> x.told(0, i, w));
            }
        }
        for (int what : outside(0, 4)) refused("13: what " + what, BAD, x -> x.told(0, 0, what));
        for (int what : outside(0, 3)) refused("14: what " + what, BAD, x -> x.count(0, what));
        refused("13: none of a THING without a ROW", NULL, x -> x.told(0, 2, 3));
    }

    private static void splitMarkHeapOf() {
        for (int g : NO_GRAPH) refused("16: graph " + g, BAD, x -> x.split(g));
        for (int i : NOT_SHOWN) {
            refused("17: in no heap, " + i, BAD, x -> x.mark(i));
            refused("18: in no heap, " + i, BAD, x -> x.heapOf(i));
            refusedByNew("17: NOT ahead of BAD, " + i, NOT, x -> x.mark(i));
            refusedByNew("18: NOT ahead of BAD, " + i, NOT, x -> x.heapOf(i));
        }
    }

    private static void nameAndItsNumbers() {
        for (int g : NO_GRAPH) refused("19: graph " + g, BAD, x -> x.name(g));
        refused("19: not RIGHT", NOT, x -> x.name(2));
        for (int k : outside(-1, 20)) refused("20: number " + k, BAD, x -> x.nameAt(k));
        for (int p : outside(0, 3)) refused("21: thing " + p, BAD, x -> x.order(p));
    }

    private static void same() {
        for (int g : NO_GRAPH) {
            refused("23: graph " + g, BAD, x -> x.same(g, 0));
            refused("23: other " + g, BAD, x -> x.same(0, g));
            refused("23: both " + g, BAD, x -> x.same(g, g));
            refused("23: BAD ahead of NOT, graph " + g, BAD, x -> x.same(g, 2));
            refused("23: BAD ahead of NOT, other " + g, BAD, x -> x.same(2, g));
            refused("23: BAD ahead of FULL, graph " + g, BAD, x -> x.same(g, 3));
            refused("23: BAD ahead of FULL, other " + g, BAD, x -> x.same(3, g));
        }
        refused("23: the first not RIGHT", NOT, x -> x.same(2, 0));
        refused("23: the second not RIGHT", NOT, x -> x.same(0, 2));
        refused("23: both not RIGHT", NOT, x -> x.same(2, 2));
        refused("23: NOT ahead of FULL", NOT, x -> x.same(2, 3));
        refused("23: NOT ahead of FULL, the second", NOT, x -> x.same(3, 2));
        refused("23: the first FULL", FULL, x -> x.same(3, 0));
        refused("23: the second FULL", FULL, x -> x.same(0, 3));
        refused("23: both FULL", FULL, x -> x.same(3, 3));
    }

    private static void unlikeAndWhy() {
        for (int g : NO_GRAPH) {
            refused("24: graph " + g, BAD, x -> x.unlike(g, 0));
            refused("24: other " + g, BAD, x -> x.unlike(0, g));
            refused("24: BAD ahead of NOT, graph " + g, BAD, x -> x.unlike(g, 2));
            refused("24: BAD ahead of NOT, other " + g, BAD, x -> x.unlike(2, g));
            refused("24: BAD ahead of FULL, graph " + g, BAD, x -> x.unlike(g, 3));
            refused("24: BAD ahead of FULL, other " + g, BAD, x -> x.unlike(3, g));
        }
        refused("24: the first not RIGHT", NOT, x -> x.unlike(2, 0));
        refused("24: the second not RIGHT", NOT, x -> x.unlike(0, 2));
        refused("24: both not RIGHT", NOT, x -> x.unlike(2, 2));
        refused("24: NOT ahead of what tells them apart", NOT, x -> x.unlike(2, 3));
        refused("24: NOT ahead of what tells them apart, the second", NOT, x -> x.unlike(3, 2));
        refused("24: FULL", FULL, x -> x.unlike(3, 3));
        for (int what : outside(0, 2)) refused("25: what " + what, BAD, x -> x.why(what));
    }

    private static void turningsAndMakers() {
        for (int g : NO_GRAPH) {
            refused("26: graph " + g, BAD, x -> x.turnings(g));
            refused("31: graph " + g, BAD, x -> x.makers(g));
        }
        refused("26: not RIGHT", NOT, x -> x.turnings(2));
        refused("31: not RIGHT", NOT, x -> x.makers(2));
    }

    private static void chain() {
        for (int g : NO_GRAPH) refused("27: graph " + g, BAD, x -> x.chain(g, 0));
        for (int k : outside(0, 3)) {
            refused("27: number " + k, BAD, x -> x.chain(0, k));
            refused("27: NOT ahead of BAD of " + k, NOT, x -> x.chain(2, k));
            refused("27: none SHOWN, number " + k, BAD, x -> x.chain(4, k));
        }
        refused("27: not RIGHT", NOT, x -> x.chain(2, 0));
        refused("27: behind the last SHOWN one, not the last one", BAD, x -> x.chain(0, 4));
    }

    private static void where() {
        for (int g : NO_GRAPH) refused("28: graph " + g, BAD, x -> x.where(g, 0, 0));
        for (int i : NOT_SHOWN) {
            refused("28: from " + i, BAD, x -> x.where(0, i, 0));
            refused("28: to " + i, BAD, x -> x.where(0, 0, i));
            refused("28: from and to " + i, BAD, x -> x.where(0, i, i));
            refused("28: NOT ahead of BAD, from " + i, NOT, x -> x.where(2, i, 0));
            refused("28: NOT ahead of BAD, to " + i, NOT, x -> x.where(2, 0, i));
        }
        refused("28: not RIGHT", NOT, x -> x.where(2, 0, 0));
    }

    private static void orbitAndBy() {
        for (int g : NO_GRAPH) refused("29: graph " + g, BAD, x -> x.orbit(g, 0));
        for (int i : NOT_SHOWN) {
            refused("29: thing " + i, BAD, x -> x.orbit(0, i));
            refused("29: NOT ahead of BAD, thing " + i, NOT, x -> x.orbit(2, i));
            refused("30: thing " + i, BAD, x -> x.by(i));
        }
        refused("29: not RIGHT", NOT, x -> x.orbit(2, 0));
    }

    private static void maker() {
        for (int m : outside(0, 1)) refused("32: maker " + m, BAD, x -> x.maker(m, 0));
        for (int i : NOT_SHOWN) refused("32: thing " + i, BAD, x -> x.maker(0, i));
    }

    /** BAD ahead of NOT: the turning at hand is of graph 0, with other things than graph 3. */
    private static void then() {
        for (int m : outside(0, 1)) refused("33: maker " + m, BAD, x -> x.then(m));
        Supplier<SameBench> others = () -> {
            SameBench x = Photo.bench();
            x.makers(3);
            return x;
        };
        Map<String, String> before = Photo.after(others, x -> 0);
        refusedBy(others, before, "33: not just those THINGS", NOT, x -> x.then(0));
        for (int m : outside(0, 5)) refusedBy(others, before, "33: BAD ahead of NOT, " + m, BAD, x -> x.then(m));
        Supplier<SameBench> noTurning = () -> {
            SameBench x = new SameBench();
            Nets.star(x, 0, 4);
            x.makers(0);
            return x;
        };
        before = Photo.after(noTurning, x -> 0);
        refusedBy(noTurning, before, "33: no TURNING", NOT, x -> x.then(0));
        refusedBy(noTurning, before, "33: no TURNING, the last MAKER", NOT, x -> x.then(1));
        for (int m : outside(0, 1)) refusedBy(noTurning, before, "33: no TURNING, " + m, BAD, x -> x.then(m));
    }

    private static void list() {
        for (int n : outside(1, 5)) {
            refused("34: n " + n, BAD, x -> x.list(n, 0));
            refused("34: n " + n + ", m " + n, BAD, x -> x.list(n, n));
        }
        for (int n = 1; n <= 5; n++) {
            int things = n;
            for (int m : outside(0, n * (n - 1) / 2)) refused("34: n " + n + " m " + m, BAD, x -> x.list(things, m));
        }
    }

    private static void listed() {
        for (int g : NO_GRAPH) {
            refused("35: graph " + g, BAD, x -> x.listed(0, g));
            refused("35: graph " + g + ", none such", BAD, x -> x.listed(9, g));
        }
        for (int i : outside(0, 2)) {
            refused("35: number " + i, BAD, x -> x.listed(i, 0));
            refused("35: number " + i + ", to a full graph", BAD, x -> x.listed(i, 3));
        }
    }

    private static void newObject() {
        refusedByNew("15: nothing to undo", NOT, x -> x.undo());
        refusedByNew("22: no NAME", BAD, x -> x.nodes());
        for (int k : new int[] {-1, 0, LEAST, MOST}) {
            refusedByNew("20: no NAME, number " + k, BAD, x -> x.nameAt(k));
            refusedByNew("21: no NAME, thing " + k, BAD, x -> x.order(k));
            refusedByNew("25: none told, " + k, BAD, x -> x.why(k));
            refusedByNew("30: no TURNING, " + k, BAD, x -> x.by(k));
            refusedByNew("32: no MAKERS, " + k, BAD, x -> x.maker(k, 0));
            refusedByNew("33: no MAKERS, " + k, BAD, x -> x.then(k));
            refusedByNew("35: no LIST, " + k, BAD, x -> x.listed(k, 0));
        }
    }
}
