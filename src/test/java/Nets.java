/** Draws nets that several tests use. */
final class Nets {
    private Nets() {
    }

    /** Plain things of colour 0, each with a row of as many places as there are things. */
    static void things(SameBench bench, int graph, int n) {
        for (int i = 0; i < n; i++) {
            bench.thing(graph, 0, 0, 0);
            bench.row(graph, i, n);
        }
    }

    static void bothWays(SameBench bench, int graph, int i, int j) {
        bench.place(graph, i, j, 1);
        bench.place(graph, j, i, 1);
    }

    static void ring(SameBench bench, int graph, int n) {
        things(bench, graph, n);
        for (int i = 0; i < n; i++) bothWays(bench, graph, i, (i + 1) % n);
    }

    static void path(SameBench bench, int graph, int n) {
        things(bench, graph, n);
        for (int i = 0; i + 1 < n; i++) bothWays(bench, graph, i, i + 1);
    }

    static void star(SameBench bench, int graph, int n) {
        things(bench, graph, n);
        for (int i = 1; i < n; i++) bothWays(bench, graph, 0, i);
    }

    /** Twelve things in one heap, in rounds of 3, 3, 3, 2 and 1: more than 3000 leaves. */
    static void tooManyLeaves(SameBench bench, int graph) {
        things(bench, graph, 12);
        int[] next = {1, 2, 0, 4, 5, 3, 7, 8, 6, 10, 9, 11};
        for (int i = 0; i < 12; i++) bench.place(graph, i, next[i], 1);
    }

    static void notRight(SameBench bench, int graph) {
        bench.thing(graph, 3, 0, 7);
    }
}
