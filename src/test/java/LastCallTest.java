import java.util.Arrays;

/** An object is used for 512 calls: the last one answers as the first, for the dearest calls too. */
public final class LastCallTest {
    private static final Check CHECK = new Check();
    private static final int CALLS = 512;

    public static void main(String[] args) {
        sameCall("name", x -> x.name(0), 2520);
        sameCall("same", x -> x.same(0, 1), 1);
        sameCall("unlike", x -> x.unlike(0, 1), 0);
        sameCall("makers", x -> x.makers(0), 10);
        sameCall("turnings", x -> x.turnings(0), 7680);
        sameCall("list", x -> x.list(5, 5), 6);
        sameCall("split", x -> x.split(0), 1);
        sameCall("a refused one", x -> x.name(8), -1);
        changes();
        CHECK.end("LastCallTest");
    }

    /** Twelve things in seven rounds: a tree as large as was found below the limit; the same in graph 1. */
    private static int draw(SameBench x) {
        int[] next = {1, 0, 3, 2, 5, 4, 7, 6, 9, 8, 10, 11};
        for (int i = 0; i < 12; i++) x.thing(0, 0, 0, 0);
        for (int i = 0; i < 12; i++) x.row(0, i, 12);
        for (int i = 0; i < 12; i++) x.place(0, i, next[i], 1);
        x.twin(0, 1);
        return 37;
    }

    private static void sameCall(String what, Photo.Call call, long want) {
        SameBench x = new SameBench();
        long[] answers = new long[CALLS - draw(x)];
        for (int k = 0; k < answers.length; k++) answers[k] = call.on(x);
        CHECK.due(what + ", the first", answers[0], want);
        CHECK.due(what + ", call 512", answers[answers.length - 1], want);
        CHECK.due(what + ", all alike", Arrays.stream(answers).distinct().count(), 1);
    }

    private static void changes() {
        SameBench x = new SameBench();
        for (int k = 0; k < 490; k++) x.thing(k / 12 % 8, 0, k % 10, 0);
        for (int k = 0; k < 20; k++) CHECK.due("an undo near the last call", x.undo() >= 0 ? 1 : 0, 1);
        CHECK.due("call 511", x.undo(), -2);
        CHECK.due("call 512", x.count(0, 0), 12);
    }
}
