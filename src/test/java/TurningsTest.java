/** Promises 26 to 33. */
public final class TurningsTest {
    private static final Check CHECK = new Check();
    private static final int BAD = -1, NOT = -2;

    public static void main(String[] args) {
        star();
        starMakers();
        ring();
        twelveAlike();
        hiddenBetween();
        keysAndLoops();
        whereNone();
        refused();
        then();
        thenRefused();
        thenOfOtherThings();
        noneShown();
        CHECK.end("TurningsTest");
    }

    private static void due(String what, long got, long want) {
        CHECK.due(what, got, want);
    }

    private static void dueTurning(String what, SameBench x, int... to) {
        for (int i = 0; i < to.length; i++) due(what + ", by " + i, x.by(i), to[i]);
    }

    private static void dueMaker(String what, SameBench x, int m, int... to) {
        for (int i = 0; i < to.length; i++) due(what + ", maker " + m + " of " + i, x.maker(m, i), to[i]);
    }

    private static void star() {
        SameBench x = new SameBench();
        Nets.star(x, 0, 5);
        due("26: star", x.turnings(0), 24);
        int[] chain = {1, 4, 3, 2, 1};
        int[] orbit = {1, 4, 4, 4, 4};
        for (int i = 0; i < 5; i++) {
            due("27: star, " + i, x.chain(0, i), chain[i]);
            due("29: star, " + i, x.orbit(0, i), orbit[i]);
        }
        due("28: star", x.where(0, 1, 4), 1);
        dueTurning("28: the least", x, 0, 4, 1, 2, 3, BAD);
        due("28: to itself", x.where(0, 2, 2), 1);
        dueTurning("28: the least leaves all", x, 0, 1, 2, 3, 4);
        due("28: none", x.where(0, 0, 1), 0);
        dueTurning("28: it stays", x, 0, 1, 2, 3, 4);
    }

    private static void starMakers() {
        SameBench x = new SameBench();
        Nets.star(x, 0, 5);
        due("32: none yet", x.maker(0, 0), BAD);
        due("31: star", x.makers(0), 3);
        dueMaker("32: star", x, 0, 0, 1, 2, 4, 3, BAD);
        dueMaker("32: star", x, 1, 0, 1, 3, 2, 4, BAD);
        dueMaker("32: star", x, 2, 0, 2, 1, 3, 4, BAD);
        due("32: no such maker", x.maker(3, 0), BAD);
        due("32: below", x.maker(-1, 0), BAD);
        due("32: thing below", x.maker(0, -1), BAD);
        due("32: thing beyond", x.maker(0, 12), BAD);
        Nets.path(x, 1, 4);
        x.turnings(1);
        dueMaker("32: as found latest", x, 1, 0, 1, 3, 2, 4);
        x.colour(0, 1, 1);
        dueMaker("32: as found", x, 2, 0, 2, 1, 3, 4);
        due("31: path", x.makers(1), 1);
        dueMaker("32: path", x, 0, 3, 2, 1, 0, BAD);
        due("32: those are gone", x.maker(1, 0), BAD);
    }

    private static void ring() {
        SameBench x = new SameBench();
        Nets.ring(x, 0, 6);
        due("26: ring", x.turnings(0), 12);
        due("31: ring", x.makers(0), 2);
        dueMaker("32: ring", x, 0, 0, 5, 4, 3, 2, 1);
        dueMaker("32: ring", x, 1, 1, 0, 5, 4, 3, 2);
        due("28: opposite", x.where(0, 1, 4), 1);
        dueTurning("28: opposite", x, 3, 4, 5, 0, 1, 2);
        Nets.things(x, 1, 5);
        for (int i = 0; i < 5; i++) x.place(1, i, (i + 1) % 5, 3);
        due("26: one way", x.turnings(1), 5);
        due("31: one way", x.makers(1), 1);
        dueMaker("32: one way", x, 0, 1, 2, 3, 4, 0);
    }

    private static void twelveAlike() {
        SameBench x = new SameBench();
        for (int i = 0; i < 12; i++) x.thing(0, 0, 0, 0);
        due("26: twelve", x.turnings(0), 479001600L);
        for (int k = 0; k < 12; k++) due("27: twelve", x.chain(0, k), 12 - k);
        due("31: twelve", x.makers(0), 11);
        dueMaker("32: twelve", x, 10, 1, 0, 2, 3, 4, 5, 6, 7, 8, 9, 10, 11);
        due("29: twelve", x.orbit(0, 11), 12);
        due("28: twelve", x.where(0, 11, 0), 1);
        dueTurning("28: twelve", x, 1, 2, 3, 4, 5, 6, 7, 8, 9, 10, 11, 0);
        SameBench y = new SameBench();
        Nets.tooManyLeaves(y, 0);
        due("26: never full", y.turnings(0), 324);
        due("27: never full", y.chain(0, 0), 9);
        due("29: never full", y.orbit(0, 9), 2);
    }

    private static void hiddenBetween() {
        SameBench x = new SameBench();
        int[] kinds = {4, 0, 4, 0, 0};
        for (int kind : kinds) x.thing(0, kind, 0, 0);
        for (int i = 0; i < 5; i++) x.row(0, i, 5);
        x.place(0, 0, 1, 1);
        x.place(0, 3, 2, 1);
        due("26: lines of hidden ones tell nothing", x.turnings(0), 6);
        due("27: of shown ones", x.chain(0, 0), 3);
        due("27: the last", x.chain(0, 2), 1);
        due("27: no more", x.chain(0, 3), BAD);
        due("28: where", x.where(0, 1, 4), 1);
        dueTurning("28: where", x, BAD, 4, BAD, 1, 3);
        due("28: from hidden", x.where(0, 0, 1), BAD);
        due("28: to hidden", x.where(0, 1, 2), BAD);
        due("29: hidden", x.orbit(0, 2), BAD);
        due("29: shown", x.orbit(0, 3), 3);
        due("31: makers", x.makers(0), 2);
        dueMaker("32: makers", x, 0, BAD, 1, BAD, 4, 3);
        dueMaker("32: makers", x, 1, BAD, 3, BAD, 1, 4);
        due("33: then", x.then(0), 1);
        dueTurning("33: then", x, BAD, 3, BAD, 1, 4);
    }

    private static void keysAndLoops() {
        SameBench x = new SameBench();
        x.thing(0, 1, 0, 5);
        x.thing(0, 1, 0, 6);
        x.thing(0, 0, 0, 0);
        x.thing(0, 0, 0, 0);
        due("26: keys", x.turnings(0), 2);
        x.word(0, 1, 5);
        due("26: like keys", x.turnings(0), 4);
        x.row(0, 2, 4);
        x.place(0, 2, 2, 1);
        due("26: a line to itself", x.turnings(0), 2);
        x.place(0, 2, 2, 0);
        x.place(0, 2, 3, 1);
        due("26: a line one way", x.turnings(0), 2);
        x.row(0, 3, 4);
        x.place(0, 3, 2, 2);
        due("26: lines of two sorts", x.turnings(0), 2);
        x.place(0, 3, 2, 1);
        due("26: lines both ways", x.turnings(0), 4);
    }

    /** Splitting can't tell the things apart, turnings can: a ring of 3 and one of 4. */
    private static void whereNone() {
        SameBench x = new SameBench();
        Nets.things(x, 0, 7);
        int[] ring = {1, 2, 0, 4, 5, 6, 3};
        for (int i = 0; i < 7; i++) Nets.bothWays(x, 0, i, ring[i]);
        due("28: one heap", x.split(0), 1);
        due("28: from 3 to 4", x.where(0, 0, 3), 0);
        due("28: from 4 to 3", x.where(0, 6, 2), 0);
        due("30: no turning", x.by(0), BAD);
        due("29: of 3", x.orbit(0, 1), 3);
        due("29: of 4", x.orbit(0, 5), 4);
        due("26: 6 times 8", x.turnings(0), 48);
    }

    private static void refused() {
        SameBench x = new SameBench();
        Nets.star(x, 1, 3);
        x.makers(1);
        Nets.notRight(x, 0);
        for (int graph : new int[] {-1, 8, Integer.MAX_VALUE, Integer.MIN_VALUE}) {
            due("26: graph", x.turnings(graph), BAD);
            due("27: graph", x.chain(graph, 0), BAD);
            due("28: graph", x.where(graph, 0, 0), BAD);
            due("29: graph", x.orbit(graph, 0), BAD);
            due("31: graph", x.makers(graph), BAD);
        }
        due("26: not right", x.turnings(0), NOT);
        due("27: not right ahead of k", x.chain(0, 99), NOT);
        due("28: not right ahead of things", x.where(0, -1, 99), NOT);
        due("29: not right ahead of the thing", x.orbit(0, 99), NOT);
        due("31: not right", x.makers(0), NOT);
        due("31: makers stay", x.maker(0, 1), 2);
        for (int i : new int[] {-1, 3, 12, Integer.MAX_VALUE, Integer.MIN_VALUE}) {
            due("27: k", x.chain(1, i), BAD);
            due("28: from", x.where(1, i, 0), BAD);
            due("28: to", x.where(1, 0, i), BAD);
            due("29: thing", x.orbit(1, i), BAD);
            due("30: thing", x.by(i), BAD);
        }
    }

    private static void then() {
        SameBench x = new SameBench();
        Nets.star(x, 0, 5);
        x.makers(0);
        x.where(0, 1, 4);
        due("33: then", x.then(0), 1);
        dueTurning("33: the turning first", x, 0, 3, 1, 2, 4);
        due("33: then another", x.then(2), 1);
        dueTurning("33: then another", x, 0, 3, 2, 1, 4);
        x.drop(0);
        due("33: of a graph that is gone", x.then(2), 1);
        dueTurning("33: of a graph that is gone", x, 0, 3, 1, 2, 4);
    }

    private static void thenRefused() {
        SameBench x = new SameBench();
        Nets.star(x, 0, 3);
        due("33: no makers", x.then(0), BAD);
        x.makers(0);
        due("33: no turning", x.then(0), NOT);
        due("33: no such maker, no turning", x.then(1), BAD);
        due("33: below", x.then(-1), BAD);
        x.where(0, 1, 2);
        due("33: now", x.then(0), 1);
        x.thing(1, 0, 0, 0);
        x.makers(1);
        due("33: a graph without makers", x.then(0), BAD);
    }

    private static void thenOfOtherThings() {
        SameBench x = new SameBench();
        Nets.things(x, 0, 2);
        x.thing(1, 4, 0, 0);
        x.thing(1, 0, 0, 0);
        x.thing(1, 0, 0, 0);
        due("33: same", x.same(0, 1), 1);
        due("33: to others", x.by(0), 1);
        x.makers(0);
        due("33: to other things", x.then(0), NOT);
        x.makers(1);
        due("33: from other things", x.then(0), NOT);
        due("33: it stays", x.by(1), 2);
        Nets.things(x, 2, 3);
        x.makers(2);
        due("33: from fewer things", x.then(0), NOT);
        x.where(2, 0, 2);
        x.makers(0);
        due("33: from more things", x.then(0), NOT);
        Nets.things(x, 3, 2);
        x.same(0, 3);
        due("33: of another graph with those things", x.then(0), 1);
        due("33: turned", x.by(0), 1);
    }

    private static void noneShown() {
        SameBench x = new SameBench();
        x.thing(0, 4, 0, 0);
        due("26: none shown", x.turnings(0), 1);
        due("27: none shown", x.chain(0, 0), BAD);
        due("29: none shown", x.orbit(0, 0), BAD);
        due("31: none shown", x.makers(0), 0);
    }
}
