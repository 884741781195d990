/** Promises 1 to 15. */
public final class GraphsTest {
    private static final Check CHECK = new Check();
    private static final int BAD = -1, NOT = -2, FULL = -3, NULL = -11, INDEX = -12, CAST = -13, SIZE = -14;
    private static final int LEAST = Integer.MIN_VALUE, MOST = Integer.MAX_VALUE;

    public static void main(String[] args) {
        newObject();
        thing();
        colour();
        word();
        row();
        unrow();
        place();
        line();
        copy();
        copyOverItself();
        swap();
        twin();
        drop();
        told();
        count();
        right();
        undo();
        undoOfEachChange();
        CHECK.end("GraphsTest");
    }

    private static void due(String what, long got, long want) {
        CHECK.due(what, got, want);
    }

    private static void newObject() {
        SameBench x = new SameBench();
        for (int g = 0; g < 8; g++) {
            due("1: things", x.count(g, 0), 0);
            due("1: shown", x.count(g, 1), 0);
            due("1: right", x.count(g, 2), 1);
            due("1: turnings", x.turnings(g), 1);
        }
        due("1: undone", x.count(0, 3), 0);
        due("1: undo", x.undo(), NOT);
        due("1: mark", x.mark(0), NOT);
        due("1: heapOf", x.heapOf(0), NOT);
        due("1: nameAt", x.nameAt(-1), BAD);
        due("1: nameAt 0", x.nameAt(0), BAD);
        due("1: order", x.order(0), BAD);
        due("1: nodes", x.nodes(), BAD);
        due("1: why", x.why(0), BAD);
        due("1: by", x.by(0), BAD);
        due("1: maker", x.maker(0, 0), BAD);
        due("1: then", x.then(0), BAD);
        due("1: listed", x.listed(0, 0), BAD);
        due("1: nothing changed", x.count(0, 3), 0);
    }

    private static void thing() {
        SameBench x = new SameBench();
        due("2: first", x.thing(0, 0, 0, 0), 0);
        due("2: second", x.thing(0, 1, 9, 99), 1);
        due("2: other graph", x.thing(7, 4, 0, 0), 0);
        due("2: kind 0 has no word", x.thing(0, 0, 0, 100), 2);
        due("2: kind 4 has no word", x.thing(0, 4, 0, LEAST), 3);
        due("2: no row at first", x.told(0, 3, 3), NULL);
        int[][] bad = {{-1, 0, 0, 0}, {8, 0, 0, 0}, {0, -1, 0, 0}, {0, 5, 0, 0}, {0, 0, -1, 0}, {0, 0, 10, 0},
            {0, 1, 0, -1}, {0, 1, 0, 100}, {0, 2, 0, 100}, {0, 3, 0, -1}, {MOST, 0, 0, 0}, {LEAST, 0, 0, 0}};
        for (int[] a : bad) due("2: refused", x.thing(a[0], a[1], a[2], a[3]), BAD);
        due("2: refused, so none more", x.count(0, 0), 4);
        for (int i = 4; i < 12; i++) due("2: more", x.thing(0, 2, 0, 50), i);
        due("2: full", x.thing(0, 0, 0, 0), FULL);
        due("2: bad ahead of full", x.thing(0, 0, 10, 0), BAD);
        due("2: none more", x.count(0, 0), 12);
        due("2: nothing to undo of refusals", x.count(0, 3), 13);
    }

    private static void colour() {
        SameBench x = new SameBench();
        x.thing(3, 0, 4, 0);
        due("3: was", x.colour(3, 0, 9), 4);
        due("3: is", x.told(3, 0, 1), 9);
        due("3: was again", x.colour(3, 0, 0), 9);
        due("3: graph", x.colour(8, 0, 0), BAD);
        due("3: graph below", x.colour(-1, 0, 0), BAD);
        due("3: thing", x.colour(3, 1, 0), BAD);
        due("3: thing below", x.colour(3, -1, 0), BAD);
        due("3: colour", x.colour(3, 0, 10), BAD);
        due("3: colour below", x.colour(3, 0, -1), BAD);
        due("3: unchanged", x.told(3, 0, 1), 0);
    }

    private static void word() {
        SameBench x = new SameBench();
        for (int kind = 0; kind < 5; kind++) x.thing(0, kind, 0, 30 + kind);
        for (int i = 1; i <= 3; i++) {
            due("4: was", x.word(0, i, 99), 30 + i);
            due("4: was again", x.word(0, i, 0), 99);
        }
        due("4: of a thing", x.word(0, 0, 1), CAST);
        due("4: of a hidden one", x.word(0, 4, 1), CAST);
        due("4: bad ahead of cast", x.word(0, 0, 100), BAD);
        due("4: word below", x.word(0, 1, -1), BAD);
        due("4: word above", x.word(0, 1, 100), BAD);
        due("4: thing", x.word(0, 5, 1), BAD);
        due("4: graph", x.word(8, 0, 1), BAD);
        due("4: key", x.told(0, 1, 2), 10);
    }

    private static void row() {
        SameBench x = new SameBench();
        x.thing(0, 0, 0, 0);
        due("5: row", x.row(0, 0, 12), 1);
        due("5: places", x.told(0, 0, 3), 12);
        x.place(0, 0, 0, 7);
        due("5: row anew", x.row(0, 0, 3), 1);
        due("5: all 0", x.line(0, 0, 0), 0);
        due("5: places anew", x.told(0, 0, 3), 3);
        due("5: none", x.row(0, 0, 0), 1);
        due("5: a row of none", x.told(0, 0, 3), 0);
        due("5: above", x.row(0, 0, 13), BAD);
        due("5: far above", x.row(0, 0, MOST), BAD);
        due("5: below", x.row(0, 0, -1), SIZE);
        due("5: far below", x.row(0, 0, LEAST), SIZE);
        due("5: bad ahead of size", x.row(0, 1, -1), BAD);
        due("5: graph", x.row(-1, 0, 2), BAD);
        due("5: unchanged", x.told(0, 0, 3), 0);
    }

    private static void unrow() {
        SameBench x = new SameBench();
        x.thing(0, 0, 0, 0);
        due("6: none", x.unrow(0, 0), NULL);
        x.row(0, 0, 5);
        x.place(0, 0, 0, 3);
        due("6: had", x.unrow(0, 0), 5);
        due("6: gone", x.told(0, 0, 3), NULL);
        due("6: no line", x.line(0, 0, 0), 0);
        due("6: twice", x.unrow(0, 0), NULL);
        x.row(0, 0, 0);
        due("6: a row of none", x.unrow(0, 0), 0);
        due("6: thing", x.unrow(0, 1), BAD);
        due("6: graph", x.unrow(9, 0), BAD);
    }

    private static void place() {
        SameBench x = new SameBench();
        x.thing(0, 0, 0, 0);
        due("7: no row", x.place(0, 0, 0, 1), NULL);
        due("7: null ahead of index", x.place(0, 0, -1, 1), NULL);
        due("7: bad ahead of null", x.place(0, 0, 0, 10), BAD);
        x.row(0, 0, 3);
        due("7: was", x.place(0, 0, 2, 9), 0);
        due("7: was 9", x.place(0, 0, 2, 0), 9);
        due("7: beyond", x.place(0, 0, 3, 1), INDEX);
        due("7: below", x.place(0, 0, -1, 1), INDEX);
        due("7: far beyond", x.place(0, 0, MOST, 1), INDEX);
        due("7: v above", x.place(0, 0, 9, 10), BAD);
        due("7: v below", x.place(0, 0, 0, -1), BAD);
        due("7: thing", x.place(0, 1, 0, 1), BAD);
        due("7: graph", x.place(8, 0, 0, 1), BAD);
        x.row(0, 0, 0);
        due("7: a row of none", x.place(0, 0, 0, 1), INDEX);
    }

    private static void line() {
        SameBench x = new SameBench();
        x.thing(0, 0, 0, 0);
        x.thing(0, 4, 0, 0);
        due("8: no row", x.line(0, 0, 1), 0);
        x.row(0, 0, 1);
        x.row(0, 1, 2);
        x.place(0, 0, 0, 5);
        x.place(0, 1, 0, 6);
        due("8: to itself", x.line(0, 0, 0), 5);
        due("8: beyond the end", x.line(0, 0, 1), 0);
        due("8: hidden", x.line(0, 1, 0), 6);
        due("8: no such from", x.line(0, 2, 0), BAD);
        due("8: no such to", x.line(0, 0, 2), BAD);
        due("8: to below", x.line(0, 0, -1), BAD);
        due("8: graph", x.line(8, 0, 0), BAD);
    }

    private static void copy() {
        SameBench x = new SameBench();
        Nets.things(x, 0, 4);
        x.thing(1, 0, 0, 0);
        for (int j = 0; j < 4; j++) x.place(0, 0, j, j + 1);
        due("9: null", x.copy(0, 0, 0, 1, 0, 0, 1), NULL);
        due("9: null the other way", x.copy(1, 0, 0, 0, 0, 0, 1), NULL);
        due("9: null ahead of index", x.copy(0, 0, -1, 1, 0, 0, 1), NULL);
        due("9: bad ahead of null", x.copy(0, 0, 0, 1, 1, 0, 1), BAD);
        due("9: to another", x.copy(0, 0, 1, 0, 1, 2, 2), 2);
        int[] want = {0, 0, 2, 3};
        for (int j = 0; j < 4; j++) due("9: copied", x.line(0, 1, j), want[j]);
        x.row(1, 0, 2);
        due("9: to another graph", x.copy(0, 0, 0, 1, 0, 1, 1), 1);
        due("9: nothing", x.copy(0, 0, 4, 1, 0, 2, 0), 0);
        due("9: that is undone", x.undo(), 1);
        int[][] off = {{0, 0, -1}, {-1, 0, 1}, {0, -1, 1}, {0, 0, 5}, {4, 0, 1}, {0, 1, 2}, {0, 3, 0}, {5, 0, 0},
            {0, 0, MOST}, {MOST, 0, 1}, {1, 0, MOST}, {0, MOST, MOST}, {LEAST, 0, 0}, {0, 0, LEAST}};
        for (int[] a : off) due("9: " + a[0] + " " + a[1] + " " + a[2], x.copy(0, 0, a[0], 1, 0, a[1], a[2]), INDEX);
        int[][] bad = {{8, 0, 0, 0}, {0, 4, 0, 0}, {0, 0, -1, 0}, {0, 0, 0, 4}, {0, -1, 0, 0}};
        for (int[] a : bad) due("9: bad", x.copy(a[0], a[1], -1, a[2], a[3], 0, 1), BAD);
    }

    private static void copyOverItself() {
        SameBench x = new SameBench();
        Nets.things(x, 0, 5);
        for (int j = 0; j < 5; j++) x.place(0, 0, j, j + 1);
        due("9: upwards", x.copy(0, 0, 0, 0, 0, 1, 4), 4);
        int[] up = {1, 1, 2, 3, 4};
        for (int j = 0; j < 5; j++) due("9: as if taken ahead", x.line(0, 0, j), up[j]);
        due("9: downwards", x.copy(0, 0, 1, 0, 0, 0, 4), 4);
        int[] down = {1, 2, 3, 4, 4};
        for (int j = 0; j < 5; j++) due("9: as if taken ahead, down", x.line(0, 0, j), down[j]);
    }

    private static void swap() {
        SameBench x = new SameBench();
        x.thing(0, 1, 3, 8);
        x.thing(0, 0, 0, 0);
        x.thing(0, 4, 0, 0);
        x.row(0, 0, 2);
        x.row(0, 2, 1);
        x.place(0, 0, 0, 1);
        x.place(0, 0, 1, 2);
        x.place(0, 2, 0, 3);
        due("10: swap", x.swap(0, 0, 1), 1);
        due("10: kind", x.told(0, 1, 0), 1);
        due("10: key", x.told(0, 1, 2), 93);
        due("10: kind of the other", x.told(0, 0, 0), 0);
        due("10: no row", x.told(0, 0, 3), NULL);
        due("10: row of 12", x.told(0, 1, 3), 12);
        due("10: row of 12 elsewhere", x.told(0, 2, 3), 12);
        due("10: to itself", x.line(0, 1, 1), 1);
        due("10: to the other", x.line(0, 1, 0), 2);
        due("10: from a third", x.line(0, 2, 1), 3);
        due("10: not from a third", x.line(0, 2, 0), 0);
        x.row(0, 2, 1);
        due("10: with itself", x.swap(0, 2, 2), 1);
        due("10: 12 places then", x.told(0, 2, 3), 12);
        due("10: thing", x.swap(0, 0, 3), BAD);
        due("10: other thing", x.swap(0, -1, 0), BAD);
        due("10: graph", x.swap(8, 0, 0), BAD);
    }

    private static void twin() {
        SameBench x = new SameBench();
        x.thing(0, 2, 1, 4);
        x.thing(0, 4, 0, 0);
        x.row(0, 0, 3);
        x.place(0, 0, 1, 8);
        due("11: twin, hidden ones too", x.twin(0, 5), 2);
        due("11: key", x.told(5, 0, 2), 2051);
        due("11: line", x.line(5, 0, 1), 8);
        due("11: places", x.told(5, 0, 3), 3);
        due("11: no row", x.told(5, 1, 3), NULL);
        x.place(5, 0, 1, 7);
        due("11: the first stays", x.line(0, 0, 1), 8);
        due("11: of an empty one", x.twin(1, 5), 0);
        due("11: empty", x.count(5, 0), 0);
        due("11: from", x.twin(8, 0), BAD);
        due("11: to", x.twin(0, -1), BAD);
        due("11: undo", x.undo(), 5);
        due("11: as before", x.line(5, 0, 1), 7);
    }

    private static void drop() {
        SameBench x = new SameBench();
        due("12: none", x.drop(2), 0);
        due("12: can be undone", x.count(2, 3), 1);
        x.thing(2, 4, 0, 0);
        x.thing(2, 0, 0, 0);
        x.row(2, 1, 2);
        due("12: had", x.drop(2), 2);
        due("12: gone", x.count(2, 0), 0);
        due("12: names nothing", x.told(2, 0, 0), BAD);
        x.thing(2, 0, 0, 0);
        x.thing(2, 0, 0, 0);
        due("12: new ones have no row", x.told(2, 1, 3), NULL);
        due("12: graph", x.drop(8), BAD);
        due("12: graph below", x.drop(-1), BAD);
    }

    private static void told() {
        SameBench x = new SameBench();
        for (int kind = 0; kind < 5; kind++) x.thing(0, kind, 5, 12);
        int[] keys = {5, 135, 2135, 4135, 5};
        int[] below = {0, 1, 1, 1, 0};
        for (int i = 0; i < 5; i++) {
            due("13: kind", x.told(0, i, 0), i);
            due("13: colour", x.told(0, i, 1), 5);
            due("13: key of kind " + i, x.told(0, i, 2), keys[i]);
            due("13: no row", x.told(0, i, 3), NULL);
            due("13: named or below", x.told(0, i, 4), below[i]);
        }
        x.row(0, 0, 0);
        due("13: places", x.told(0, 0, 3), 0);
        due("13: what", x.told(0, 0, 5), BAD);
        due("13: what below", x.told(0, 0, -1), BAD);
        due("13: thing", x.told(0, 5, 0), BAD);
        due("13: graph", x.told(8, 0, 0), BAD);
    }

    private static void count() {
        SameBench x = new SameBench();
        x.thing(1, 0, 0, 0);
        x.thing(1, 4, 0, 0);
        x.thing(1, 4, 0, 0);
        due("14: things", x.count(1, 0), 3);
        due("14: shown", x.count(1, 1), 1);
        due("14: right", x.count(1, 2), 1);
        due("14: undone", x.count(1, 3), 3);
        due("14: undone, by any graph", x.count(0, 3), 3);
        due("14: what", x.count(1, 4), BAD);
        due("14: what below", x.count(1, -1), BAD);
        due("14: graph", x.count(8, 0), BAD);
        for (int i = 0; i < 30; i++) x.drop(0);
        due("14: 20 at most", x.count(1, 3), 20);
    }

    /** Each case: kinds and words, and whether that is right. */
    private static void right() {
        int[][] cases = {
            {1, 2, 5}, {0, 2, 5, 1, 5}, {0, 2, 5, 2, 5}, {0, 2, 5, 3, 5}, {1, 2, 5, 4, 5}, {1, 2, 5, 0, 5},
            {1, 2, 5, 1, 6}, {0, 3, 5}, {1, 3, 5, 3, 5}, {1, 3, 5, 1, 5}, {0, 3, 5, 3, 5, 1, 5},
            {0, 3, 5, 3, 5, 3, 5}, {0, 3, 5, 4, 5}, {1, 1, 5, 1, 5, 1, 5}, {0, 3, 5, 2, 5}, {1, 3, 5, 3, 5, 3, 6, 3, 6},
        };
        for (int[] a : cases) {
            SameBench x = new SameBench();
            for (int k = 1; k < a.length; k += 2) x.thing(0, a[k], 0, a[k + 1]);
            due("14: right: " + java.util.Arrays.toString(a), x.count(0, 2), a[0]);
            due("14: name: " + java.util.Arrays.toString(a), x.name(0) == NOT ? 0 : 1, a[0]);
        }
    }

    private static void undo() {
        SameBench x = new SameBench();
        x.thing(0, 0, 0, 0);
        for (int c = 1; c <= 25; c++) x.colour(0, 0, c % 10);
        due("15: refused", x.colour(0, 0, 99), BAD);
        for (int k = 24; k >= 5; k--) {
            due("15: its number", x.undo(), 0);
            due("15: as before", x.told(0, 0, 1), k % 10);
        }
        due("15: 20 at most", x.undo(), NOT);
        x.thing(6, 0, 0, 0);
        x.thing(3, 0, 0, 0);
        due("15: latest", x.undo(), 3);
        due("15: none twice", x.undo(), 6);
        due("15: none", x.undo(), NOT);
        due("15: gone", x.count(6, 0), 0);
        due("15: this graph stays", x.count(0, 0), 1);
    }

    private static void undoOfEachChange() {
        SameBench x = new SameBench();
        x.thing(0, 1, 2, 3);
        x.row(0, 0, 2);
        x.place(0, 0, 0, 4);
        x.list(2, 1);
        String before = state(x);
        for (int change = 0; change < 10; change++) {
            if (change == 0) x.thing(0, 0, 0, 0);
            if (change == 1) x.colour(0, 0, 7);
            if (change == 2) x.word(0, 0, 7);
            if (change == 3) x.row(0, 0, 7);
            if (change == 4) x.unrow(0, 0);
            if (change == 5) x.place(0, 0, 0, 7);
            if (change == 6) x.copy(0, 0, 0, 0, 0, 1, 1);
            if (change == 7) x.swap(0, 0, 0);
            if (change == 8) x.drop(0);
            if (change == 9) x.listed(0, 0);
            CHECK.same("15: change " + change + " changed it", !state(x).equals(before), true);
            due("15: undo of change " + change, x.undo(), 0);
            CHECK.same("15: as before change " + change, state(x), before);
        }
        x.twin(0, 1);
        due("15: undo of twin", x.undo(), 1);
        due("15: none then", x.count(1, 0), 0);
    }

    private static String state(SameBench x) {
        StringBuilder all = new StringBuilder();
        for (int i = 0; i < x.count(0, 0); i++) {
            for (int what = 0; what < 5; what++) all.append(x.told(0, i, what)).append(' ');
            for (int j = 0; j < 12; j++) all.append(x.line(0, i, j)).append(' ');
            int beyondLine = x.place(0, i, 1, 0);
            if (beyondLine >= 0) x.undo();
            all.append(beyondLine).append(';');
        }
        return all.toString();
    }
}
