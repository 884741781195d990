/** Promises 34 and 35 at their edges: the least and the most things and lines, the first and the last of a list. */
public final class EdgesOfListTest {
    private static final Check CHECK = new Check();
    private static final int BAD = -1, NOT = -2, FULL = -3, INDEX = -12;

    public static void main(String[] args) {
        fewestAndMost();
        refusedOnBothSides();
        oneThing();
        noLinesAndAllLines();
        firstAndLast();
        toEachGraph();
        rowsOfJustAsMany();
        becomesAllAnew();
        listKnowsNoOtherNets();
        listStaysAsItWas();
        undoOfListed();
        CHECK.end("EdgesOfListTest");
    }

    private static void due(String what, long got, long want) {
        CHECK.due(what, got, want);
    }

    private static void fewestAndMost() {
        SameBench x = new SameBench();
        due("34: 1 and 0", x.list(1, 0), 1);
        due("34: 5 and 10", x.list(5, 10), 1);
        due("34: 5 and 0", x.list(5, 0), 1);
        due("34: 5 and 5", x.list(5, 5), 6);
        due("34: 2 and 1", x.list(2, 1), 1);
        due("34: 4 and 6", x.list(4, 6), 1);
    }

    private static void refusedOnBothSides() {
        SameBench x = new SameBench();
        due("34: n below", x.list(0, 0), BAD);
        due("34: n above", x.list(6, 0), BAD);
        int[] pairs = {0, 0, 1, 3, 6, 10};
        for (int n = 1; n <= 5; n++) {
            due("34: m below, n " + n, x.list(n, -1), BAD);
            due("34: m above, n " + n, x.list(n, pairs[n] + 1), BAD);
            due("35: no LIST yet", x.listed(0, 0), BAD);
        }
        due("34: the last m", x.list(3, 3), 1);
        due("34: n above, behind a LIST", x.list(6, 3), BAD);
        due("34: m above, behind a LIST", x.list(3, 4), BAD);
        due("35: the LIST stays", x.listed(0, 0), 3);
        due("35: as it was", x.line(0, 0, 2), 1);
    }

    private static void oneThing() {
        SameBench x = new SameBench();
        x.list(1, 0);
        due("35: one", x.listed(0, 0), 1);
        due("35: one THING", x.count(0, 0), 1);
        due("35: a ROW of one", x.told(0, 0, 3), 1);
        due("35: no LINE", x.line(0, 0, 0), 0);
        due("35: no more", x.listed(1, 0), BAD);
    }

    private static void noLinesAndAllLines() {
        for (int n = 1; n <= 5; n++) {
            SameBench x = new SameBench();
            int pairs = n * (n - 1) / 2;
            due("34: no lines", x.list(n, 0), 1);
            x.listed(0, 0);
            due("34: all lines", x.list(n, pairs), 1);
            x.listed(0, 1);
            for (int i = 0; i < n; i++) {
                for (int j = 0; j < n; j++) {
                    due("35: no line", x.line(0, i, j), 0);
                    due("35: all lines but to itself", x.line(1, i, j), i == j ? 0 : 1);
                }
            }
        }
    }

    private static void firstAndLast() {
        SameBench x = new SameBench();
        x.list(5, 4);
        due("35: below the first", x.listed(-1, 0), BAD);
        due("35: the first", x.listed(0, 0), 5);
        due("35: the last", x.listed(5, 1), 5);
        due("35: behind the last", x.listed(6, 0), BAD);
        due("23: those are two sorts", x.same(0, 1), 0);
        due("24: the first is less", x.unlike(0, 1) == 3 || x.why(1) < x.why(2) ? 1 : 0, 1);
        x.list(5, 1);
        due("35: the only one", x.listed(0, 0), 5);
        due("35: no second one", x.listed(1, 0), BAD);
    }

    private static void toEachGraph() {
        SameBench x = new SameBench();
        x.list(4, 3);
        for (int g = 0; g < 8; g++) {
            due("35: graph " + g, x.listed(g % 3, g), 4);
            due("35: of 4", x.count(g, 0), 4);
        }
        due("35: graph 8", x.listed(0, 8), BAD);
        due("35: graph -1", x.listed(0, -1), BAD);
        due("23: number 0 twice", x.same(0, 3), 1);
        due("23: numbers 0 and 1", x.same(0, 1), 0);
        due("23: numbers 1 and 2", x.same(4, 5), 0);
    }

    private static void rowsOfJustAsMany() {
        for (int n = 1; n <= 5; n++) {
            SameBench x = new SameBench();
            x.list(n, n - 1);
            x.listed(0, 0);
            for (int i = 0; i < n; i++) {
                due("35: PLACES", x.told(0, i, 3), n);
                due("35: the last PLACE", x.place(0, i, n - 1, 0) >= 0 ? 1 : 0, 1);
                due("35: behind the last", x.place(0, i, n, 0), INDEX);
            }
        }
    }

    private static void becomesAllAnew() {
        SameBench x = new SameBench();
        for (int i = 0; i < 12; i++) {
            x.thing(0, 3, 9, 99);
            x.row(0, i, 12);
        }
        x.list(2, 1);
        due("35: a full GRAPH", x.listed(0, 0), 2);
        for (int i = 0; i < 2; i++) {
            for (int what = 0; what < 5; what++) due("35: told", x.told(0, i, what), what == 3 ? 2 : 0);
        }
        due("35: no more THINGS", x.told(0, 2, 0), BAD);
        due("14: RIGHT", x.count(0, 2), 1);
        x.thing(0, 0, 0, 0);
        due("8: a later THING has no LINES", x.line(0, 0, 2) + x.line(0, 2, 0), 0);
        for (int i = 3; i < 12; i++) x.thing(0, 0, 0, 0);
        due("2: FULL", x.thing(0, 0, 0, 0), FULL);
    }

    /** Whatever nets were looked at ahead of it. */
    private static void listKnowsNoOtherNets() {
        SameBench x = new SameBench();
        for (int i = 0; i < 12; i++) {
            x.thing(0, 1, 9, 99);
            x.row(0, i, 12);
            for (int j = 0; j < 12; j++) if (i <= j) x.place(0, i, j, 9);
        }
        x.name(0);
        x.turnings(0);
        x.split(0);
        for (int m = 0; m <= 10; m++) {
            int many = x.list(5, m);
            due("34: as many as ever, " + m, many, new int[] {1, 1, 2, 4, 6, 6, 6, 4, 2, 1, 1}[m]);
            x.listed(many - 1, 1);
            int lines = 0;
            for (int k = 0; k < 25; k++) lines += x.line(1, k / 5, k % 5);
            due("35: lines, both ways", lines, 2 * m);
            if (m % 4 == 0) x.turnings(0);
        }
        x.turnings(0);
        x.list(1, 0);
        x.listed(0, 1);
        due("35: no line to itself", x.line(1, 0, 0), 0);
    }

    private static void listStaysAsItWas() {
        SameBench x = new SameBench();
        x.list(3, 3);
        x.listed(0, 0);
        x.place(0, 0, 1, 0);
        x.colour(0, 2, 5);
        x.name(0);
        x.same(0, 0);
        x.unlike(0, 0);
        x.split(0);
        x.makers(0);
        due("35: the LIST is not the GRAPH", x.listed(0, 1), 3);
        due("35: its LINE is there", x.line(1, 0, 1), 1);
        due("35: its COLOUR is 0", x.told(1, 2, 1), 0);
        due("34: a LIST anew", x.list(1, 0), 1);
        due("35: of that", x.listed(0, 1), 1);
    }

    private static void undoOfListed() {
        SameBench x = new SameBench();
        x.thing(7, 2, 1, 4);
        x.list(5, 10);
        due("14: list() is no change", x.count(0, 3), 1);
        x.listed(0, 7);
        due("14: listed() is one", x.count(0, 3), 2);
        due("15: its GRAPH", x.undo(), 7);
        due("15: as before", x.told(7, 0, 2), 2051);
        due("15: no more THINGS", x.count(7, 0), 1);
        x.undo();
        due("15: none", x.undo(), NOT);
        due("35: the LIST is there after undo()", x.listed(0, 7), 5);
    }
}
