import java.util.LinkedHashMap;
import java.util.List;
import java.util.Map;
import java.util.function.Supplier;

/** All that calls can tell of a bench in use, part by part. */
final class Photo {
    static final List<String> PARTS =
        List.of("graphs", "undo", "parting", "name", "why", "turning", "makers", "list");

    interface Call {
        long on(SameBench x);
    }

    private Photo() {
    }

    /** A bench that has everything at hand: graph 2 isn't right, graph 3 has too many leaves, 4 to 6 are empty. */
    static SameBench bench() {
        SameBench x = new SameBench();
        Nets.tooManyLeaves(x, 3);
        Nets.notRight(x, 2);
        drawAllKinds(x);
        drawStarWithHidden(x);
        x.twin(0, 7);
        x.split(0);
        x.mark(1);
        x.name(0);
        x.unlike(0, 1);
        x.where(0, 1, 4);
        x.makers(0);
        x.list(4, 3);
        return x;
    }

    private static void drawAllKinds(SameBench x) {
        x.thing(1, 1, 2, 5);
        x.thing(1, 2, 0, 6);
        x.thing(1, 3, 1, 7);
        x.thing(1, 3, 0, 7);
    }

    private static void drawStarWithHidden(SameBench x) {
        for (int i = 0; i < 5; i++) x.thing(0, i == 3 ? 4 : 0, i == 3 ? 6 : 0, 0);
        x.row(0, 0, 5);
        x.row(0, 1, 0);
        for (int j : new int[] {1, 2, 4}) x.place(0, 0, j, 1);
        x.place(0, 0, 3, 2);
    }

    /** What each part tells after a call. An object has but 512 calls, so each part is asked of a bench of its own. */
    static Map<String, String> after(Supplier<SameBench> start, Call call) {
        Map<String, String> told = new LinkedHashMap<>();
        for (String part : PARTS) {
            SameBench x = start.get();
            call.on(x);
            told.put(part, tell(part, x));
        }
        return told;
    }

    private static String tell(String part, SameBench x) {
        StringBuilder all = new StringBuilder();
        switch (part) {
            case "graphs": for (int g = 0; g < 8; g++) tellGraph(all, x, g); break;
            case "undo": tellUndo(all, x); break;
            case "parting": tellParting(all, x); break;
            case "name": tellName(all, x); break;
            case "why": for (int k = 0; k < 3; k++) add(all, x.why(k)); break;
            case "turning": for (int i = 0; i < 12; i++) add(all, x.by(i)); break;
            case "makers": tellMakers(all, x); break;
            case "list": tellList(all, x); break;
            default: throw new IllegalArgumentException(part);
        }
        return all.toString();
    }

    private static void add(StringBuilder all, long answer) {
        all.append(answer).append(' ');
    }

    private static void tellGraph(StringBuilder all, SameBench x, int g) {
        int n = x.count(g, 0);
        add(all, n);
        for (int i = 0; i < n; i++) {
            for (int what = 0; what < 4; what++) add(all, x.told(g, i, what));
            for (int j = 0; j < n; j++) add(all, x.line(g, i, j));
        }
        all.append('/');
    }

    /** Of each step back: whose graph, and what its first and last things are then. */
    private static void tellUndo(StringBuilder all, SameBench x) {
        add(all, x.count(0, 3));
        for (int k = 0; k < 21; k++) {
            int g = x.undo();
            add(all, g);
            if (g < 0) return;
            int n = x.count(g, 0);
            add(all, n);
            for (int what = 1; what < 4; what++) add(all, x.told(g, n - 1, what));
            for (int what = 1; what < 4; what++) add(all, x.told(g, 0, what));
            for (int j = 0; j < Math.min(n, 5); j++) add(all, x.line(g, 0, j));
            all.append('/');
        }
    }

    private static void tellParting(StringBuilder all, SameBench x) {
        for (int i = 0; i < 12; i++) add(all, x.heapOf(i));
        add(all, x.mark(2));
        for (int i = 0; i < 12; i++) add(all, x.heapOf(i));
    }

    private static void tellName(StringBuilder all, SameBench x) {
        add(all, x.nodes());
        int length = x.nameAt(-1);
        add(all, length);
        for (int k = 0; k < length; k++) add(all, x.nameAt(k));
        for (int p = 0; p < 12; p++) add(all, x.order(p));
    }

    private static void tellMakers(StringBuilder all, SameBench x) {
        for (int m = 0; m < 12; m++) for (int i = 0; i < 12; i++) add(all, x.maker(m, i));
    }

    private static void tellList(StringBuilder all, SameBench x) {
        for (int i = 0; i < 7; i++) {
            int n = x.listed(i, 6);
            add(all, n);
            for (int k = 0; k < n * n; k++) add(all, x.line(6, k / n, k % n));
        }
    }
}
