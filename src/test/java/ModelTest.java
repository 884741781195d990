/** Long runs of calls, drawn by a fixed rule, on the bench and on the model: all answers must be the same. */
public final class ModelTest {
    private static final int[] WILD = {-1, -2, 5, 8, 12, 13, 100, Integer.MAX_VALUE, Integer.MIN_VALUE, 2147483640};
    private static long seed = 1;

    public static void main(String[] args) {
        Check check = new Check();
        for (int run = 0; run < 600; run++) wildRun(new Both(check, "wild run " + run), run);
        for (int run = 0; run < 500; run++) drawnRun(new Both(check, "drawn run " + run), run);
        check.end("ModelTest");
    }

    /** A number from 0 to below the end. */
    private static int draw(int end) {
        seed = seed * 6364136223846793005L + 1442695040888963407L;
        return (int) ((seed >>> 33) % end);
    }

    /** Mostly a number from 0 to below the end; now and then any. */
    private static int some(int end) {
        return draw(40) == 0 ? WILD[draw(WILD.length)] : draw(end);
    }

    private static void wildRun(Both both, int run) {
        seed = run;
        int graphs = 1 + draw(3);
        int most = 2 + draw(6);
        int kinds = 1 + draw(5);
        int values = 2 + draw(2);
        for (int i = 0; i < most; i++) {
            both.call("thing", draw(graphs), draw(kinds), draw(2), draw(3));
        }
        while (!both.isSpent()) {
            int what = draw(10);
            if (what < 4) changing(both, graphs, most, kinds, values);
            else if (what < 5) tellingGraphs(both, graphs, most);
            else if (what < 7) namesAndPartings(both, graphs, most);
            else if (what < 9) turnings(both, graphs, most);
            else listing(both, graphs);
        }
    }

    private static void changing(Both both, int graphs, int most, int kinds, int values) {
        int g = some(graphs);
        switch (draw(20)) {
            case 0: both.call("thing", g, some(kinds), some(2), some(3)); break;
            case 1: both.call("colour", g, some(most), some(2)); break;
            case 2: both.call("word", g, some(most), some(4)); break;
            case 3: case 4: both.call("row", g, some(most), some(13)); break;
            case 5: both.call("unrow", g, some(most)); break;
            case 6: both.call("copy", g, some(most), some(4), some(graphs), some(most), some(4), some(5)); break;
            case 7: both.call("swap", g, some(most), some(most)); break;
            case 8: both.call("twin", g, some(graphs)); break;
            case 9: if (draw(8) == 0) both.call("drop", g); break;
            case 10: both.call("undo"); break;
            default: both.call("place", g, some(most), some(most), some(values)); break;
        }
    }

    private static void tellingGraphs(Both both, int graphs, int most) {
        int g = some(graphs);
        switch (draw(3)) {
            case 0: both.call("line", g, some(most), some(most)); break;
            case 1: both.call("told", g, some(most), some(6)); break;
            default: both.call("count", g, some(5)); break;
        }
    }

    private static void namesAndPartings(Both both, int graphs, int most) {
        int g = some(graphs);
        switch (draw(10)) {
            case 0: both.call("split", g); break;
            case 1: both.call("mark", some(most)); break;
            case 2: both.call("heapOf", some(most)); break;
            case 3: both.call("name", g); break;
            case 4: both.call("nameAt", some(20) - 1); break;
            case 5: both.call("order", some(most)); break;
            case 6: both.call("nodes"); break;
            case 7: both.call("same", g, some(graphs)); break;
            case 8: both.call("unlike", g, some(graphs)); break;
            default: both.call("why", some(4)); break;
        }
    }

    private static void turnings(Both both, int graphs, int most) {
        int g = some(graphs);
        switch (draw(8)) {
            case 0: both.call("turnings", g); break;
            case 1: both.call("chain", g, some(most)); break;
            case 2: both.call("where", g, some(most), some(most)); break;
            case 3: both.call("orbit", g, some(most)); break;
            case 4: both.call("by", some(most)); break;
            case 5: both.call("makers", g); break;
            case 6: both.call("maker", some(3), some(most)); break;
            default: both.call("then", some(3)); break;
        }
    }

    private static void listing(Both both, int graphs) {
        if (draw(3) == 0) both.call("list", some(7), some(11));
        else if (draw(4) == 0) both.call("listed", some(7), some(graphs));
    }

    /** A net of much likeness in graph 0, the same with other numbers in graph 1, all told of both. */
    private static void drawnRun(Both both, int run) {
        seed = 100000 + run;
        int n = drawNet(both, 3 + draw(7));
        both.call("twin", 0, 1);
        for (int k = 0; k < 4; k++) both.call("swap", 1, draw(n), draw(n));
        if (draw(3) == 0) both.call("place", 1, draw(n), draw(n), draw(2));
        if (draw(4) == 0) both.call("colour", 1, draw(n), draw(2));
        both.call("same", 0, 1);
        for (int i = 0; i < n; i++) both.call("by", i);
        both.call("makers", 1);
        both.call("then", 0);
        for (int i = 0; i < n; i++) both.call("by", i);
        both.call("unlike", 0, 1);
        for (int k = 0; k < 3; k++) both.call("why", k);
        for (int g = 0; g < 2; g++) tellAll(both, g, n);
    }

    private static void tellAll(Both both, int g, int n) {
        both.call("name", g);
        both.call("nodes");
        for (int p = 0; p < n; p++) both.call("order", p);
        for (int k = 1 + n; k < 1 + n + n * n; k++) both.call("nameAt", k);
        both.call("turnings", g);
        for (int i = 0; i < n; i++) both.call("chain", g, i);
        for (int i = 0; i < n; i++) both.call("orbit", g, i);
        int makers = (int) both.call("makers", g);
        for (int m = 0; m < makers; m++) for (int i = 0; i < n; i++) both.call("maker", m, i);
        both.call("where", g, draw(n), draw(n));
        for (int i = 0; i < n; i++) both.call("by", i);
        both.call("split", g);
        both.call("mark", draw(n));
        for (int i = 0; i < n; i++) both.call("heapOf", i);
    }

    private static int drawNet(Both both, int n) {
        for (int i = 0; i < n; i++) {
            both.call("thing", 0, draw(12) == 0 ? 4 : 0, draw(10) == 0 ? 1 : 0, 0);
            both.call("row", 0, i, 12);
        }
        boolean oneWay = draw(2) == 0;
        int shape = draw(4);
        int step = 1 + draw(3);
        for (int i = 0; i < n; i++) {
            for (int j = 0; j < n; j++) {
                if (i == j || !isDrawn(shape, step, n, i, j)) continue;
                both.call("place", 0, i, j, 1);
                if (!oneWay) both.call("place", 0, j, i, 1);
            }
        }
        return n;
    }

    private static boolean isDrawn(int shape, int step, int n, int i, int j) {
        switch (shape) {
            case 0: return (i + step) % n == j;
            case 1: return i % (step + 1) == 0 ? j == i + step && j < n : j == i - 1;
            case 2: return i + n / 2 == j || i % 2 == j % 2 && i + 2 == j;
            default: return i % 3 == j % 3 && (i + 3) % n == j || j == i + 1 && i % 3 != 2;
        }
    }
}
