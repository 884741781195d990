/** Promises 34 and 35. */
public final class ListTest {
    private static final Check CHECK = new Check();
    private static final int BAD = -1;
    private static final int[][] MANY = {
        {1}, {1, 1}, {1, 1, 1, 1}, {1, 1, 2, 3, 2, 1, 1}, {1, 1, 2, 4, 6, 6, 6, 4, 2, 1, 1},
    };

    public static void main(String[] args) {
        counts();
        refused();
        oneLineOfThree();
        twoLinesOfFour();
        byNames();
        listedGraph();
        CHECK.end("ListTest");
    }

    private static void due(String what, long got, long want) {
        CHECK.due(what, got, want);
    }

    private static void counts() {
        SameBench x = new SameBench();
        for (int n = 1; n <= 5; n++) {
            for (int m = 0; m < MANY[n - 1].length; m++) due("34: " + n + ", " + m, x.list(n, m), MANY[n - 1][m]);
            due("34: more lines than pairs", x.list(n, MANY[n - 1].length), BAD);
            due("34: lines below", x.list(n, -1), BAD);
        }
    }

    private static void refused() {
        SameBench x = new SameBench();
        x.list(4, 3);
        int[][] bad = {{0, 0}, {6, 0}, {-1, 0}, {Integer.MAX_VALUE, 1}, {Integer.MIN_VALUE, 0}, {5, Integer.MAX_VALUE},
            {5, Integer.MIN_VALUE}};
        for (int[] a : bad) due("34: refused", x.list(a[0], a[1]), BAD);
        due("35: below", x.listed(-1, 0), BAD);
        due("35: beyond", x.listed(3, 0), BAD);
        due("35: graph", x.listed(0, 8), BAD);
        due("35: graph below", x.listed(0, -1), BAD);
        due("35: nothing to undo", x.count(0, 3), 0);
        due("35: the list stays", x.listed(2, 0), 4);
        x.list(2, 0);
        due("35: a list of one", x.listed(1, 0), BAD);
    }

    private static void dueLines(String what, SameBench x, int graph, int n, String lines) {
        StringBuilder all = new StringBuilder();
        for (int i = 0; i < n; i++) for (int j = 0; j < n; j++) all.append(x.line(graph, i, j));
        CHECK.same(what, all.toString(), lines);
    }

    private static void oneLineOfThree() {
        SameBench x = new SameBench();
        x.list(3, 1);
        due("35: n", x.listed(0, 6), 3);
        dueLines("35: the order of its name", x, 6, 3, "000001010");
    }

    private static void twoLinesOfFour() {
        SameBench x = new SameBench();
        x.list(4, 2);
        x.listed(0, 0);
        x.listed(1, 1);
        dueLines("34: the lesser name first", x, 0, 4, "0000000100010110");
        dueLines("34: the other", x, 1, 4, "0001001001001000");
    }

    /** Each listed graph is as its own name tells, and the names go up. */
    private static void byNames() {
        for (int n = 1; n <= 5; n++) {
            for (int m = 0; m < MANY[n - 1].length; m++) {
                String before = "";
                for (int i = 0; i < MANY[n - 1][m]; i++) {
                    SameBench x = new SameBench();
                    x.list(n, m);
                    x.listed(i, 0);
                    x.name(0);
                    StringBuilder name = new StringBuilder();
                    int lines = 0;
                    for (int k = 1 + n; k < x.nameAt(-1); k++) name.append(x.nameAt(k));
                    dueLines("35: as its name, " + n + " " + m + " " + i, x, 0, n, name.toString());
                    for (int k = 0; k < n * n; k++) lines += x.line(0, k / n, k % n);
                    due("34: lines", lines, 2 * m);
                    CHECK.same("34: names go up", before.compareTo(name.toString()) < 0, true);
                    before = name.toString();
                }
            }
        }
    }

    private static void listedGraph() {
        SameBench x = new SameBench();
        for (int i = 0; i < 7; i++) x.thing(2, 2, 3, i);
        x.list(5, 4);
        due("35: listed", x.listed(5, 2), 5);
        due("35: things", x.count(2, 0), 5);
        for (int i = 0; i < 5; i++) {
            due("35: kind", x.told(2, i, 0), 0);
            due("35: colour", x.told(2, i, 1), 0);
            due("35: places", x.told(2, i, 3), 5);
        }
        x.name(2);
        for (int p = 0; p < 5; p++) due("35: order", x.nameAt(6 + p), x.line(2, 0, p));
        due("35: undo", x.undo(), 2);
        due("35: as before", x.told(2, 6, 2), 2073);
        x.drop(2);
        due("34: the list is kept", x.listed(0, 2), 5);
    }
}
