/** Promises 1 to 15 at their edges: the least and the most that is taken, sentence by sentence. */
public final class EdgesOfGraphsTest {
    private static final Check CHECK = new Check();
    private static final int BAD = -1, NOT = -2, FULL = -3, NULL = -11, INDEX = -12;
    private static final int LEAST = Integer.MIN_VALUE, MOST = Integer.MAX_VALUE;

    public static void main(String[] args) {
        eachGraphNoneAtFirst();
        twelveInEachGraph();
        roomAgain();
        kindsColoursWords();
        wordNotLookedAt();
        keys();
        rowOfEachLength();
        rowAnewIsAllZero();
        unrowOfEachLength();
        placeOfEachLength();
        placeOfEachValue();
        placesOfNoThing();
        lineBeyondTheEnd();
        linesOfHidden();
        copyToTheEnd();
        copyWithinOneRow();
        copyBetweenShortRows();
        swapFirstAndLast();
        swapLengthensRows();
        swapOfOneLengthensRows();
        swapKeepsWhatLiesBeyond();
        twinOfAll();
        twinOfTwelve();
        twinOfItself();
        dropOfEach();
        rightByRooted();
        rightByPairs();
        rightOfOneGraphAlone();
        rightOfWhatIsThere();
        undoOfTwenty();
        undoNoneTwice();
        undoAcrossGraphs();
        undoOfCopyIsOfTheOther();
        CHECK.end("EdgesOfGraphsTest");
    }

    private static void due(String what, long got, long want) {
        CHECK.due(what, got, want);
    }

    private static void eachGraphNoneAtFirst() {
        SameBench x = new SameBench();
        for (int g = 0; g < 8; g++) {
            for (int what = 0; what < 4; what++) due("1: graph " + g, x.count(g, what), what == 2 ? 1 : 0);
            due("1: no THING", x.told(g, 0, 0), BAD);
            due("1: no LINE", x.line(g, 0, 0), BAD);
            due("1: nothing dropped", new SameBench().drop(g), 0);
            due("1: none of a twin", new SameBench().twin(g, 7 - g), 0);
            due("1: no heaps", new SameBench().split(g), 0);
        }
    }

    private static void twelveInEachGraph() {
        SameBench x = new SameBench();
        for (int i = 0; i < 12; i++) {
            for (int g = 0; g < 8; g++) due("2: thing " + i + " of " + g, x.thing(g, i % 5, 0, i), i);
        }
        for (int g = 0; g < 8; g++) {
            due("2: the thirteenth", x.thing(g, 0, 0, 0), FULL);
            due("2: twelve", x.count(g, 0), 12);
        }
    }

    private static void roomAgain() {
        SameBench x = new SameBench();
        for (int i = 0; i < 12; i++) x.thing(0, 4, 0, 0);
        due("2: HIDDEN ones count", x.thing(0, 0, 0, 0), FULL);
        due("15: the twelfth is undone", x.undo(), 0);
        due("2: one more", x.thing(0, 0, 0, 0), 11);
        due("2: full again", x.thing(0, 0, 0, 0), FULL);
        x.drop(0);
        due("2: after drop()", x.thing(0, 0, 0, 0), 0);
        x.twin(1, 0);
        due("2: after twin()", x.thing(0, 0, 0, 0), 0);
        x.list(5, 0);
        x.listed(0, 0);
        for (int i = 5; i < 12; i++) due("2: after listed()", x.thing(0, 0, 0, 0), i);
        due("2: full after listed()", x.thing(0, 0, 0, 0), FULL);
    }

    private static void kindsColoursWords() {
        for (int kind = 0; kind < 5; kind++) {
            for (int c : new int[] {0, 9}) {
                for (int w : new int[] {0, 99}) {
                    SameBench x = new SameBench();
                    due("2: kind " + kind + " colour " + c + " word " + w, x.thing(7, kind, c, w), 0);
                    due("13: kind", x.told(7, 0, 0), kind);
                    due("13: colour", x.told(7, 0, 1), c);
                    due("13: of KIND 1 or below", x.told(7, 0, 4), kind >= 1 && kind <= 3 ? 1 : 0);
                    due("3: was", x.colour(7, 0, 9 - c), c);
                    due("3: is", x.told(7, 0, 1), 9 - c);
                    if (kind < 1 || kind > 3) continue;
                    due("4: was", x.word(7, 0, 99 - w), w);
                    due("4: was, again", x.word(7, 0, w), 99 - w);
                    due("4: is", x.word(7, 0, w), w);
                }
            }
        }
    }

    private static void wordNotLookedAt() {
        SameBench x = new SameBench();
        int i = 0;
        for (int w : new int[] {-1, 100, LEAST, MOST}) {
            due("2: THING, word " + w, x.thing(0, 0, 1, w), i++);
            due("2: HIDDEN, word " + w, x.thing(0, 4, 1, w), i++);
        }
        for (int k = 0; k < i; k++) due("13: the KEY has no WORD", x.told(0, k, 2), 1);
    }

    private static void keys() {
        int[][] cases = {
            {0, 0, 0, 0}, {0, 9, 99, 9}, {1, 0, 0, 10}, {1, 9, 0, 19}, {1, 0, 99, 1000}, {1, 9, 99, 1009},
            {2, 0, 0, 2010}, {2, 9, 99, 3009}, {3, 0, 0, 4010}, {3, 9, 99, 5009}, {4, 0, 0, 0}, {4, 9, 99, 9},
        };
        for (int[] a : cases) {
            SameBench x = new SameBench();
            x.thing(0, a[0], a[1], a[2]);
            due("13: KEY of kind " + a[0], x.told(0, 0, 2), a[3]);
            x.colour(0, 0, 5);
            due("13: KEY of another colour", x.told(0, 0, 2), a[3] - a[1] + 5);
        }
        SameBench x = new SameBench();
        x.thing(0, 2, 3, 4);
        x.word(0, 0, 99);
        due("13: KEY of another word", x.told(0, 0, 2), 3003);
    }

    private static void rowOfEachLength() {
        SameBench x = new SameBench();
        x.thing(0, 0, 0, 0);
        due("1: no ROW at first", x.told(0, 0, 3), NULL);
        for (int n = 0; n <= 12; n++) {
            due("5: row of " + n, x.row(0, 0, n), 1);
            due("13: PLACES", x.told(0, 0, 3), n);
        }
    }

    private static void rowAnewIsAllZero() {
        SameBench x = new SameBench();
        Nets.things(x, 0, 12);
        for (int j = 0; j < 12; j++) x.place(0, 3, j, 9);
        due("5: a ROW anew", x.row(0, 3, 12), 1);
        for (int j = 0; j < 12; j++) due("5: all 0", x.line(0, 3, j), 0);
        x.place(0, 3, 11, 9);
        x.row(0, 3, 5);
        x.row(0, 3, 12);
        due("5: what was cut off is gone", x.line(0, 3, 11), 0);
        x.place(0, 3, 11, 9);
        x.unrow(0, 3);
        due("6: no LINE", x.line(0, 3, 11), 0);
        x.row(0, 3, 12);
        due("5: 0 after unrow()", x.line(0, 3, 11), 0);
    }

    private static void unrowOfEachLength() {
        SameBench x = new SameBench();
        x.thing(0, 4, 0, 0);
        for (int n = 0; n <= 12; n++) {
            due("6: none, ahead of " + n, x.unrow(0, 0), NULL);
            x.row(0, 0, n);
            due("6: how many it had", x.unrow(0, 0), n);
            due("13: none then", x.told(0, 0, 3), NULL);
        }
    }

    private static void placeOfEachLength() {
        SameBench x = new SameBench();
        x.thing(0, 0, 0, 0);
        for (int n = 1; n <= 12; n++) {
            x.row(0, 0, n);
            due("7: the first PLACE", x.place(0, 0, 0, 1), 0);
            due("7: was", x.place(0, 0, 0, 0), 1);
            due("7: the last PLACE of " + n, x.place(0, 0, n - 1, 2), 0);
            due("7: the last was", x.place(0, 0, n - 1, 0), 2);
            due("7: behind the last", x.place(0, 0, n, 1), INDEX);
            due("7: ahead of the first", x.place(0, 0, -1, 1), INDEX);
        }
    }

    private static void placeOfEachValue() {
        SameBench x = new SameBench();
        Nets.things(x, 0, 2);
        int was = 0;
        for (int v = 9; v >= 0; v--) {
            due("7: was", x.place(0, 0, 1, v), was);
            due("8: is", x.line(0, 0, 1), v);
            due("8: not the other way", x.line(0, 1, 0), 0);
            was = v;
        }
    }

    private static void placesOfNoThing() {
        SameBench x = new SameBench();
        x.thing(0, 0, 0, 0);
        x.row(0, 0, 12);
        due("7: a PLACE of a THING not there yet", x.place(0, 0, 1, 6), 0);
        due("7: the last one", x.place(0, 0, 11, 7), 0);
        due("8: no such THING yet", x.line(0, 0, 1), BAD);
        due("26: it tells nothing", x.turnings(0), 1);
        x.thing(0, 0, 0, 0);
        due("8: it is there now", x.line(0, 0, 1), 6);
        x.undo();
        due("7: it was 6", x.place(0, 0, 1, 0), 6);
    }

    private static void lineBeyondTheEnd() {
        SameBench x = new SameBench();
        for (int i = 0; i < 12; i++) x.thing(0, 0, 0, 0);
        for (int j = 0; j < 12; j++) due("8: without a ROW", x.line(0, 11, j), 0);
        for (int n = 0; n <= 12; n++) {
            x.row(0, 11, n);
            if (n > 0) x.place(0, 11, n - 1, 8);
            if (n > 0) due("8: the last PLACE", x.line(0, 11, n - 1), 8);
            if (n < 12) due("8: beyond the end of " + n, x.line(0, 11, n), 0);
            due("8: to the last THING", x.line(0, 11, 11), n == 12 ? 8 : 0);
        }
        due("8: behind the last THING", x.line(0, 11, 12), BAD);
    }

    private static void linesOfHidden() {
        SameBench x = new SameBench();
        for (int i = 0; i < 3; i++) x.thing(0, i == 1 ? 4 : 0, 0, 0);
        for (int i = 0; i < 3; i++) x.row(0, i, 3);
        x.place(0, 0, 1, 4);
        x.place(0, 1, 2, 5);
        x.place(0, 1, 1, 6);
        due("8: to a HIDDEN one", x.line(0, 0, 1), 4);
        due("8: from a HIDDEN one", x.line(0, 1, 2), 5);
        due("8: a HIDDEN one to itself", x.line(0, 1, 1), 6);
    }

    /** A ROW with PLACE j of j + 1 up to 9, then 0. */
    private static void countUp(SameBench x, int graph, int i, int n) {
        x.row(graph, i, n);
        for (int j = 0; j < n && j < 9; j++) x.place(graph, i, j, j + 1);
    }

    private static void dueRow(String what, SameBench x, int graph, int i, int... places) {
        for (int j = 0; j < places.length; j++) due(what + ", place " + j, x.line(graph, i, j), places[j]);
    }

    private static void copyToTheEnd() {
        SameBench x = new SameBench();
        Nets.things(x, 0, 12);
        Nets.things(x, 7, 12);
        countUp(x, 0, 0, 12);
        due("9: all 12", x.copy(0, 0, 0, 7, 11, 0, 12), 12);
        dueRow("9: all 12", x, 7, 11, 1, 2, 3, 4, 5, 6, 7, 8, 9, 0, 0, 0);
        due("9: the last one", x.copy(0, 0, 8, 7, 11, 11, 1), 1);
        dueRow("9: the last one", x, 7, 11, 1, 2, 3, 4, 5, 6, 7, 8, 9, 0, 0, 9);
        due("9: from the last one", x.copy(7, 11, 11, 7, 11, 0, 1), 1);
        due("9: from the last one", x.line(7, 11, 0), 9);
        due("9: none, from behind the last", x.copy(0, 0, 12, 7, 11, 0, 0), 0);
        due("9: none, to behind the last", x.copy(0, 0, 0, 7, 11, 12, 0), 0);
        due("9: none, both", x.copy(0, 0, 12, 7, 11, 12, 0), 0);
        due("9: 0 is copied, too", x.copy(0, 0, 9, 7, 11, 0, 3), 3);
        dueRow("9: at the end", x, 7, 11, 0, 0, 0, 4, 5, 6, 7, 8, 9, 0, 0, 9);
        dueRow("9: the first ROW stays", x, 0, 0, 1, 2, 3, 4, 5, 6, 7, 8, 9, 0, 0, 0);
    }

    private static void copyWithinOneRow() {
        SameBench x = new SameBench();
        Nets.things(x, 0, 6);
        countUp(x, 0, 2, 6);
        due("9: onto itself", x.copy(0, 2, 0, 0, 2, 0, 6), 6);
        dueRow("9: onto itself", x, 0, 2, 1, 2, 3, 4, 5, 6);
        due("9: up by one", x.copy(0, 2, 0, 0, 2, 1, 5), 5);
        dueRow("9: up by one", x, 0, 2, 1, 1, 2, 3, 4, 5);
        countUp(x, 0, 2, 6);
        due("9: up by two", x.copy(0, 2, 1, 0, 2, 3, 3), 3);
        dueRow("9: up by two", x, 0, 2, 1, 2, 3, 2, 3, 4);
        countUp(x, 0, 2, 6);
        due("9: down by one", x.copy(0, 2, 1, 0, 2, 0, 5), 5);
        dueRow("9: down by one", x, 0, 2, 2, 3, 4, 5, 6, 6);
        countUp(x, 0, 2, 6);
        due("9: down by two", x.copy(0, 2, 2, 0, 2, 0, 4), 4);
        dueRow("9: down by two", x, 0, 2, 3, 4, 5, 6, 5, 6);
    }

    private static void copyBetweenShortRows() {
        SameBench x = new SameBench();
        for (int i = 0; i < 4; i++) x.thing(0, i == 3 ? 4 : 0, 0, 0);
        countUp(x, 0, 0, 3);
        x.row(0, 1, 1);
        x.row(0, 2, 0);
        x.row(0, 3, 2);
        due("9: to the end of a short ROW", x.copy(0, 0, 2, 0, 1, 0, 1), 1);
        due("9: more than it has", x.copy(0, 0, 0, 0, 1, 0, 2), INDEX);
        due("9: from a ROW of none", x.copy(0, 2, 0, 0, 1, 1, 0), 0);
        due("9: to a ROW of none", x.copy(0, 0, 3, 0, 2, 0, 0), 0);
        due("9: a ROW of none onto itself", x.copy(0, 2, 0, 0, 2, 0, 0), 0);
        due("9: to a HIDDEN one", x.copy(0, 0, 1, 0, 3, 0, 2), 2);
        due("9: from a HIDDEN one", x.copy(0, 3, 1, 0, 0, 0, 1), 1);
        dueRow("9: as copied", x, 0, 0, 3, 2, 3, 0);
        dueRow("9: as copied to the short one", x, 0, 1, 3, 0, 0, 0);
        dueRow("9: as copied to the HIDDEN one", x, 0, 3, 2, 3, 0, 0);
        due("13: as many PLACES as before", x.told(0, 1, 3), 1);
    }

    private static void swapFirstAndLast() {
        SameBench x = new SameBench();
        for (int i = 0; i < 12; i++) x.thing(0, i == 0 ? 3 : 0, i == 11 ? 9 : 0, 44);
        x.row(0, 0, 12);
        x.row(0, 11, 12);
        x.place(0, 0, 0, 1);
        x.place(0, 0, 11, 2);
        x.place(0, 0, 5, 3);
        x.place(0, 11, 0, 4);
        x.place(0, 11, 11, 5);
        due("10: 0 and 11", x.swap(0, 0, 11), 1);
        due("10: KIND", x.told(0, 11, 0), 3);
        due("10: COLOUR", x.told(0, 0, 1), 9);
        due("10: KEY with the WORD", x.told(0, 11, 2), 4450);
        due("10: was 0 to 0", x.line(0, 11, 11), 1);
        due("10: was 0 to 11", x.line(0, 11, 0), 2);
        due("10: was 0 to 5", x.line(0, 11, 5), 3);
        due("10: was 11 to 0", x.line(0, 0, 11), 4);
        due("10: was 11 to 11", x.line(0, 0, 0), 5);
        due("10: was 11 to 5", x.line(0, 0, 5), 0);
        due("10: back again", x.swap(0, 11, 0), 1);
        due("10: was 0 to 11, again", x.line(0, 0, 11), 2);
    }

    /** Rows of 0 and 2 places, none, and one of a HIDDEN thing. */
    private static SameBench someRows() {
        SameBench x = new SameBench();
        for (int i = 0; i < 5; i++) x.thing(0, i == 4 ? 4 : 0, 0, 0);
        x.row(0, 0, 2);
        x.row(0, 1, 0);
        x.row(0, 3, 12);
        x.row(0, 4, 1);
        x.place(0, 0, 1, 3);
        x.thing(1, 0, 0, 0);
        x.row(1, 0, 4);
        return x;
    }

    private static void swapLengthensRows() {
        SameBench x = someRows();
        due("10: swap", x.swap(0, 0, 2), 1);
        int[] places = {NULL, 12, 12, 12, 12};
        for (int i = 0; i < 5; i++) due("10: PLACES of " + i, x.told(0, i, 3), places[i]);
        due("10: other GRAPHS keep theirs", x.told(1, 0, 3), 4);
        due("10: the LINE", x.line(0, 2, 1), 3);
        due("7: the last PLACE is there", x.place(0, 1, 11, 1), 0);
        x.undo();
        due("15: as before", x.undo(), 0);
        due("15: PLACES as before", x.told(0, 1, 3), 0);
        due("15: short as before", x.place(0, 0, 2, 1), INDEX);
    }

    private static void swapOfOneLengthensRows() {
        for (int i = 0; i < 5; i++) {
            SameBench x = someRows();
            due("10: both are one", x.swap(0, i, i), 1);
            int[] places = {12, 12, NULL, 12, 12};
            for (int k = 0; k < 5; k++) due("10: PLACES of " + k, x.told(0, k, 3), places[k]);
            due("10: the LINE stays", x.line(0, 0, 1), 3);
            due("10: no other LINE", x.line(0, 1, 0), 0);
        }
    }

    private static void swapKeepsWhatLiesBeyond() {
        SameBench x = new SameBench();
        for (int i = 0; i < 2; i++) x.thing(0, 0, 0, 0);
        x.row(0, 0, 12);
        x.place(0, 0, 2, 5);
        x.place(0, 0, 11, 6);
        x.swap(0, 0, 1);
        for (int i = 2; i < 12; i++) x.thing(0, 0, 0, 0);
        due("10: to a THING that was not there", x.line(0, 1, 2), 5);
        due("10: to the last one", x.line(0, 1, 11), 6);
    }

    private static void twinOfAll() {
        SameBench x = someRows();
        for (int i = 0; i < 12; i++) x.thing(7, 1, 1, 1);
        due("11: to graph 7", x.twin(0, 7), 5);
        int[] places = {2, 0, NULL, 12, 1};
        for (int i = 0; i < 5; i++) due("11: PLACES of " + i, x.told(7, i, 3), places[i]);
        due("11: HIDDEN, too", x.told(7, 4, 0), 4);
        due("11: no more THINGS", x.told(7, 5, 0), BAD);
        due("11: cut short, too", x.place(7, 0, 2, 1), INDEX);
        due("11: no ROW, too", x.place(7, 2, 0, 1), NULL);
        x.place(0, 0, 1, 8);
        due("11: later changes are not followed", x.line(7, 0, 1), 3);
        due("11: from graph 7", x.twin(7, 0), 5);
        due("11: as the other one is", x.line(0, 0, 1), 3);
        x.twin(1, 0);
        x.drop(1);
        due("11: it stays when the other one is dropped", x.count(0, 0), 1);
    }

    /** Twelve things, each of which differs from the others in all that can be told of it. */
    private static String twelve(SameBench x, int graph) {
        StringBuilder all = new StringBuilder();
        for (int i = 0; i < 12; i++) {
            for (int what = 0; what < 4; what++) all.append(x.told(graph, i, what)).append(' ');
            for (int j = 0; j < 12; j += i % 3 + 1) all.append(x.line(graph, i, j));
            all.append(x.line(graph, i, 11)).append(';');
        }
        return all.toString();
    }

    private static void twinOfTwelve() {
        SameBench x = new SameBench();
        for (int i = 0; i < 12; i++) {
            x.thing(0, i % 5, 9 - i % 10, 99 - i);
            if (i % 4 != 2) x.row(0, i, i + 1);
            x.place(0, i, i, 1 + i % 9);
        }
        String want = twelve(x, 0);
        due("11: twelve", x.twin(0, 7), 12);
        CHECK.same("11: all of twelve", twelve(x, 7), want);
        x.drop(7);
        x.undo();
        CHECK.same("15: all of twelve", twelve(x, 7), want);
    }

    private static void twinOfItself() {
        SameBench x = someRows();
        int kept = x.count(0, 3);
        due("11: as it is", x.twin(0, 0), 5);
        due("11: its LINES stay", x.line(0, 0, 1), 3);
        due("11: its ROWS stay", x.told(0, 4, 3), 1);
        due("15: that can be undone", x.count(0, 3), kept + 1);
        due("15: undo", x.undo(), 0);
        due("15: its LINES stay", x.line(0, 0, 1), 3);
    }

    private static void dropOfEach() {
        SameBench x = new SameBench();
        for (int g = 0; g < 8; g++) for (int i = 0; i < g + 5 && i < 12; i++) x.thing(g, i % 2 * 4, 0, 0);
        for (int g = 0; g < 8; g++) {
            due("12: how many, HIDDEN ones too", x.drop(g), Math.min(12, g + 5));
            due("12: none", x.count(g, 0), 0);
            due("12: none SHOWN", x.count(g, 1), 0);
            due("12: once more", x.drop(g), 0);
            if (g < 7) due("12: the next one stays", x.count(g + 1, 0), Math.min(12, g + 6));
        }
    }

    private static int isRight(int... kindsAndWords) {
        SameBench x = new SameBench();
        for (int k = 0; k + 1 < kindsAndWords.length; k += 2) {
            x.thing(0, kindsAndWords[k], k % 9, kindsAndWords[k + 1]);
        }
        return x.count(0, 2);
    }

    private static void rightByRooted() {
        due("14: one ROOTED", isRight(2, 0), 1);
        due("14: a NAMED one has its WORD", isRight(2, 0, 1, 0), 0);
        due("14: a NAMED one ahead has its WORD", isRight(1, 0, 2, 0), 0);
        due("14: a NAMED one has the next WORD", isRight(2, 0, 1, 1), 1);
        due("14: another ROOTED one has its WORD", isRight(2, 99, 2, 99), 0);
        due("14: another ROOTED one has another WORD", isRight(2, 99, 2, 98), 1);
        due("14: PAIRS have its WORD", isRight(3, 5, 2, 5, 3, 5), 0);
        due("14: a PAIR's other one is ROOTED", isRight(3, 5, 2, 5), 0);
        due("14: THINGS and HIDDEN ones have no WORD", isRight(0, 0, 2, 0, 4, 0), 1);
        due("14: NAMED ones alone", isRight(1, 0, 1, 0, 1, 0), 1);
    }

    private static void rightByPairs() {
        due("14: no other", isRight(3, 0), 0);
        due("14: just one other", isRight(3, 0, 3, 0), 1);
        due("14: just one other NAMED one", isRight(3, 0, 1, 0), 1);
        due("14: two others", isRight(3, 0, 3, 0, 3, 0), 0);
        due("14: two other NAMED ones", isRight(1, 0, 3, 0, 1, 0), 0);
        due("14: a PAIR and a NAMED one", isRight(3, 0, 3, 0, 1, 0), 0);
        due("14: of another WORD", isRight(3, 0, 3, 1), 0);
        due("14: two PAIRS of PAIRS", isRight(3, 98, 3, 99, 3, 98, 3, 99), 1);
        due("14: a HIDDEN one is no other", isRight(3, 0, 4, 0), 0);
        due("14: a THING is no other", isRight(3, 0, 0, 0), 0);
        due("14: a THING is not too many", isRight(3, 0, 0, 0, 3, 0, 4, 0), 1);
    }

    private static void rightOfOneGraphAlone() {
        SameBench x = new SameBench();
        x.thing(0, 2, 0, 7);
        x.thing(1, 2, 0, 7);
        x.thing(1, 3, 0, 8);
        x.thing(2, 3, 0, 8);
        due("14: another GRAPH's WORD is no other", x.count(0, 2), 1);
        due("14: another GRAPH's PAIR is no other", x.count(1, 2), 0);
        x.thing(1, 3, 0, 9);
        x.word(1, 2, 8);
        due("14: a WORD makes it RIGHT", x.count(1, 2), 1);
        x.word(1, 0, 8);
        due("14: a WORD makes it not RIGHT", x.count(1, 2), 0);
        x.undo();
        due("14: undo() makes it RIGHT", x.count(1, 2), 1);
    }

    private static void rightOfWhatIsThere() {
        SameBench x = new SameBench();
        x.thing(0, 1, 0, 5);
        x.thing(0, 1, 0, 5);
        x.drop(0);
        x.thing(0, 2, 0, 5);
        due("14: what was dropped is no other", x.count(0, 2), 1);
        x.thing(0, 1, 0, 5);
        due("14: it is one now", x.count(0, 2), 0);
        x.undo();
        due("14: what was undone is no other", x.count(0, 2), 1);
        x.drop(0);
        x.thing(0, 3, 0, 5);
        due("14: what was dropped is not just one other", x.count(0, 2), 0);
        x.thing(1, 3, 0, 5);
        x.thing(1, 3, 0, 5);
        x.twin(0, 1);
        due("14: what a twin has not is no other", x.count(1, 2), 0);
    }

    private static void undoOfTwenty() {
        for (int changes : new int[] {19, 20, 21, 40, 41}) {
            SameBench x = new SameBench();
            for (int k = 0; k < changes; k++) x.thing(k % 8, 4, 0, 0);
            int most = Math.min(20, changes);
            due("14: what can be undone of " + changes, x.count(0, 3), most);
            for (int k = 1; k <= most; k++) {
                due("15: its number", x.undo(), (changes - k) % 8);
                due("14: one less", x.count(7, 3), most - k);
            }
            due("15: no more", x.undo(), NOT);
            int left = 0;
            for (int g = 0; g < 8; g++) left += x.count(g, 0);
            due("15: what is too long ago stays", left, changes - most);
        }
    }

    private static void undoNoneTwice() {
        SameBench x = new SameBench();
        x.thing(0, 0, 1, 0);
        x.colour(0, 0, 2);
        x.undo();
        x.colour(0, 0, 3);
        due("15: the latest", x.undo(), 0);
        due("15: as before it", x.told(0, 0, 1), 1);
        due("15: not the undone one again", x.undo(), 0);
        due("15: but the one ahead of it", x.count(0, 0), 0);
        due("15: none", x.undo(), NOT);
        for (int k = 0; k < 20; k++) x.thing(k % 2, 0, 0, 0);
        for (int k = 0; k < 5; k++) x.undo();
        for (int k = 0; k < 6; k++) x.drop(3);
        due("14: 15 and 6 are 20", x.count(0, 3), 20);
        for (int k = 0; k < 6; k++) due("15: the six", x.undo(), 3);
        for (int k = 14; k >= 1; k--) due("15: fourteen of the fifteen", x.undo(), k % 2);
        due("15: none of the first", x.undo(), NOT);
        due("15: the first stays", x.count(0, 0), 1);
    }

    private static void undoAcrossGraphs() {
        SameBench x = new SameBench();
        x.thing(0, 0, 0, 0);
        x.thing(7, 0, 5, 0);
        x.colour(0, 0, 8);
        x.colour(7, 0, 6);
        due("15: graph 7", x.undo(), 7);
        due("15: as before", x.told(7, 0, 1), 5);
        due("15: the other stays", x.told(0, 0, 1), 8);
        due("15: graph 0", x.undo(), 0);
        due("15: as before, too", x.told(0, 0, 1), 0);
        due("15: the other stays, too", x.told(7, 0, 1), 5);
        x.twin(7, 0);
        x.colour(7, 0, 1);
        x.undo();
        due("15: of twin(), the one that became", x.undo(), 0);
        due("15: of twin(), as before", x.told(0, 0, 1), 0);
    }

    private static void undoOfCopyIsOfTheOther() {
        SameBench x = new SameBench();
        Nets.things(x, 1, 1);
        Nets.things(x, 2, 1);
        x.place(1, 0, 0, 4);
        x.copy(1, 0, 0, 2, 0, 0, 1);
        due("9: copied", x.line(2, 0, 0), 4);
        due("15: the one copied to", x.undo(), 2);
        due("15: as before", x.line(2, 0, 0), 0);
        due("15: the one copied from stays", x.line(1, 0, 0), 4);
    }
}
