import java.util.Arrays;

/** A bench and the model side by side: each call goes to both, and their answers must be the same. */
final class Both {
    private final SameBench bench = new SameBench();
    private final Model model = new Model();
    private final Check check;
    private final String run;
    private int calls = 0;
    private int wrong = 0;

    Both(Check check, String run) {
        this.check = check;
        this.run = run;
    }

    boolean isSpent() {
        return calls >= 512 || wrong > 0;
    }

    /** What the model answers; 0, and no call, when the bench has had all its calls. */
    long call(String name, int... a) {
        if (isSpent()) return 0;
        calls++;
        long want = model.call(name, a);
        long got = play(name, a);
        if (got != want) wrong++;
        check.due(run + ", call " + calls + " " + name + Arrays.toString(a), got, want);
        return want;
    }

    private long play(String name, int... a) {
        switch (name) {
            case "thing": return bench.thing(a[0], a[1], a[2], a[3]);
            case "colour": return bench.colour(a[0], a[1], a[2]);
            case "word": return bench.word(a[0], a[1], a[2]);
            case "row": return bench.row(a[0], a[1], a[2]);
            case "unrow": return bench.unrow(a[0], a[1]);
            case "place": return bench.place(a[0], a[1], a[2], a[3]);
            case "line": return bench.line(a[0], a[1], a[2]);
            case "copy": return bench.copy(a[0], a[1], a[2], a[3], a[4], a[5], a[6]);
            case "swap": return bench.swap(a[0], a[1], a[2]);
            case "twin": return bench.twin(a[0], a[1]);
            case "drop": return bench.drop(a[0]);
            case "told": return bench.told(a[0], a[1], a[2]);
            case "count": return bench.count(a[0], a[1]);
            case "undo": return bench.undo();
            case "split": return bench.split(a[0]);
            case "mark": return bench.mark(a[0]);
            case "heapOf": return bench.heapOf(a[0]);
            case "name": return bench.name(a[0]);
            case "nameAt": return bench.nameAt(a[0]);
            case "order": return bench.order(a[0]);
            case "nodes": return bench.nodes();
            case "same": return bench.same(a[0], a[1]);
            case "unlike": return bench.unlike(a[0], a[1]);
            case "why": return bench.why(a[0]);
            case "turnings": return bench.turnings(a[0]);
            case "chain": return bench.chain(a[0], a[1]);
            case "where": return bench.where(a[0], a[1], a[2]);
            case "orbit": return bench.orbit(a[0], a[1]);
            case "by": return bench.by(a[0]);
            case "makers": return bench.makers(a[0]);
            case "maker": return bench.maker(a[0], a[1]);
            case "then": return bench.then(a[0]);
            case "list": return bench.list(a[0], a[1]);
            case "listed": return bench.listed(a[0], a[1]);
            default: throw new IllegalArgumentException(name);
        }
    }
}
