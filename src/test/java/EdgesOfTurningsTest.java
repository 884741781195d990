/** Promises 26 to 33 at their edges: none and twelve, the first and the last one, what is at hand and what is not. */
public final class EdgesOfTurningsTest {
    private static final Check CHECK = new Check();
    private static final int BAD = -1, NOT = -2;

    public static void main(String[] args) {
        noneShown();
        oneShown();
        noneButToItself();
        twelveAlike();
        eachKeyTells();
        eachLineTells();
        shownAlone();
        rowsMissingOrCutShort();
        chainIsTheCount();
        chainLeavesAllAheadAlone();
        whereToItself();
        whereIsTheLeast();
        whereBackwards();
        whereNowhere();
        loopsThatSplittingCantTell();
        orbitOfEach();
        byOfOthers();
        makersOfLast();
        makersLeaveAllAhead();
        makersAsFoundLatest();
        makersMakeAll();
        thenAgainAndAgain();
        thenOfJustThoseThings();
        thenWithoutTheFirstOrTheLast();
        thenOfNone();
        neverFull();
        CHECK.end("EdgesOfTurningsTest");
    }

    private static void due(String what, long got, long want) {
        CHECK.due(what, got, want);
    }

    private static void dueTurning(String what, SameBench x, int... to) {
        for (int i = 0; i < to.length; i++) due(what + ", by " + i, x.by(i), to[i]);
    }

    private static void dueMaker(String what, SameBench x, int m, int... to) {
        for (int i = 0; i < to.length; i++) due(what + ", maker " + m + " of " + i, x.maker(m, i), to[i]);
    }

    private static SameBench alike(int graph, int n) {
        SameBench x = new SameBench();
        for (int i = 0; i < n; i++) x.thing(graph, 0, 0, 0);
        return x;
    }

    private static void noneShown() {
        SameBench x = new SameBench();
        x.thing(7, 4, 0, 0);
        for (int g : new int[] {0, 7}) {
            due("26: the one of none", x.turnings(g), 1);
            due("27: none", x.chain(g, 0), BAD);
            due("28: none", x.where(g, 0, 0), BAD);
            due("29: none", x.orbit(g, 0), BAD);
            due("31: none", x.makers(g), 0);
            due("32: none", x.maker(0, 0), BAD);
            due("33: none", x.then(0), BAD);
        }
    }

    private static void oneShown() {
        SameBench x = alike(7, 1);
        due("26: one", x.turnings(7), 1);
        due("27: one", x.chain(7, 0), 1);
        due("27: no more", x.chain(7, 1), BAD);
        due("28: one", x.where(7, 0, 0), 1);
        due("28: no more", x.where(7, 0, 1), BAD);
        due("29: one", x.orbit(7, 0), 1);
        due("30: one", x.by(0), 0);
        due("30: no more", x.by(1), BAD);
        due("31: one needs no MAKER", x.makers(7), 0);
    }

    private static void noneButToItself() {
        SameBench x = new SameBench();
        for (int i = 0; i < 12; i++) x.thing(0, 1, 0, 99 - i);
        due("26: twelve of other KEYS", x.turnings(0), 1);
        due("31: no MAKERS", x.makers(0), 0);
        due("32: no MAKER", x.maker(0, 0), BAD);
        for (int i = 0; i < 12; i++) {
            due("27: stays", x.chain(0, i), 1);
            due("29: stays", x.orbit(0, i), 1);
            due("28: stays", x.where(0, i, i), 1);
            due("28: goes nowhere", x.where(0, i, 11 - i), 0);
        }
        dueTurning("28: the only one", x, 0, 1, 2, 3, 4, 5, 6, 7, 8, 9, 10, 11, BAD);
    }

    private static void twelveAlike() {
        SameBench x = alike(7, 12);
        due("26: 12!", x.turnings(7), 479001600L);
        for (int k = 0; k < 12; k++) {
            due("27: number " + k, x.chain(7, k), 12 - k);
            due("29: thing " + k, x.orbit(7, k), 12);
        }
        due("27: no number 12", x.chain(7, 12), BAD);
        due("31: eleven", x.makers(7), 11);
        for (int m = 0; m < 11; m++) {
            for (int i = 0; i < 12; i++) {
                int want = i == 10 - m ? 11 - m : i == 11 - m ? 10 - m : i;
                due("32: maker " + m + " of " + i, x.maker(m, i), want);
            }
        }
        due("32: no maker 11", x.maker(11, 0), BAD);
        due("28: the first to the last", x.where(7, 0, 11), 1);
        dueTurning("28: the first to the last", x, 11, 0, 1, 2, 3, 4, 5, 6, 7, 8, 9, 10, BAD);
        due("28: the last to the first", x.where(7, 11, 0), 1);
        dueTurning("28: the last to the first", x, 1, 2, 3, 4, 5, 6, 7, 8, 9, 10, 11, 0, BAD);
        due("33: the last MAKER", x.then(10), 1);
        dueTurning("33: the last MAKER", x, 0, 2, 3, 4, 5, 6, 7, 8, 9, 10, 11, 1);
    }

    private static void eachKeyTells() {
        SameBench x = new SameBench();
        x.thing(0, 0, 0, 0);
        x.thing(0, 0, 0, 0);
        due("26: alike", x.turnings(0), 2);
        x.colour(0, 1, 9);
        due("26: COLOUR", x.turnings(0), 1);
        due("28: COLOUR", x.where(0, 0, 1), 0);
        for (int i = 0; i < 2; i++) x.thing(1, 3, 0, 99);
        due("26: PAIR and PAIR", x.turnings(1), 2);
        x.thing(2, 3, 0, 99);
        x.thing(2, 1, 0, 99);
        due("26: PAIR and NAMED", x.turnings(2), 1);
        x.thing(3, 0, 0, 0);
        x.thing(3, 1, 0, 0);
        due("26: THING and NAMED", x.turnings(3), 1);
        x.thing(4, 1, 0, 0);
        x.thing(4, 1, 0, 1);
        due("26: WORDS", x.turnings(4), 1);
        x.word(4, 1, 0);
        due("26: one WORD", x.turnings(4), 2);
    }

    private static void eachLineTells() {
        for (int v = 1; v <= 9; v++) {
            SameBench x = new SameBench();
            Nets.things(x, 0, 3);
            x.place(0, 0, 1, v);
            due("26: a LINE one way", x.turnings(0), 1);
            x.place(0, 1, 0, v);
            due("26: LINES of one v both ways", x.turnings(0), 2);
            x.place(0, 1, 0, v % 9 + 1);
            due("26: LINES of two v", x.turnings(0), 1);
            x.place(0, 1, 0, v);
            x.place(0, 0, 0, v);
            due("26: a LINE to itself", x.turnings(0), 1);
            x.place(0, 1, 1, v % 9 + 1);
            due("26: LINES to themselves of two v", x.turnings(0), 1);
            x.place(0, 1, 1, v);
            due("26: LINES to themselves of one v", x.turnings(0), 2);
        }
    }

    private static void shownAlone() {
        SameBench x = new SameBench();
        for (int i = 0; i < 12; i++) x.thing(0, i % 2 == 0 ? 4 : 0, i == 4 ? 1 : 0, 0);
        x.row(0, 0, 12);
        x.place(0, 0, 1, 1);
        x.row(0, 1, 1);
        x.place(0, 1, 0, 1);
        due("26: six SHOWN", x.turnings(0), 720);
        due("27: the first SHOWN", x.chain(0, 0), 6);
        due("27: the last SHOWN", x.chain(0, 5), 1);
        due("27: behind it", x.chain(0, 6), BAD);
        due("29: the first SHOWN", x.orbit(0, 1), 6);
        due("29: the last SHOWN", x.orbit(0, 11), 6);
        due("28: the first to the last", x.where(0, 1, 11), 1);
        dueTurning("28: the first to the last", x, BAD, 11, BAD, 1, BAD, 3, BAD, 5, BAD, 7, BAD, 9);
        due("31: SHOWN ones", x.makers(0), 5);
        dueMaker("32: the first", x, 0, BAD, 1, BAD, 3, BAD, 5, BAD, 7, BAD, 11, BAD, 9);
        dueMaker("32: the last", x, 4, BAD, 3, BAD, 1, BAD, 5, BAD, 7, BAD, 9, BAD, 11);
        due("32: no more", x.maker(5, 1), BAD);
    }

    private static void rowsMissingOrCutShort() {
        SameBench x = alike(0, 3);
        x.row(0, 1, 12);
        x.row(0, 2, 0);
        due("26: no LINE in any ROW", x.turnings(0), 6);
        x.row(0, 2, 2);
        x.place(0, 2, 1, 5);
        due("26: a LINE in a short ROW", x.turnings(0), 1);
        x.place(0, 1, 2, 5);
        due("26: and back from a long one", x.turnings(0), 2);
        due("28: back and forth", x.where(0, 1, 2), 1);
        dueTurning("28: back and forth", x, 0, 2, 1);
    }

    private static void chainIsTheCount() {
        SameBench x = new SameBench();
        Nets.ring(x, 0, 12);
        due("26: ring of 12", x.turnings(0), 24);
        due("27: the first", x.chain(0, 0), 12);
        due("27: the second", x.chain(0, 1), 2);
        for (int k = 2; k < 12; k++) due("27: the others", x.chain(0, k), 1);
        due("27: below", x.chain(0, -1), BAD);
    }

    /** What is alike, but not when those ahead are left where they are. */
    private static void chainLeavesAllAheadAlone() {
        SameBench x = new SameBench();
        Nets.things(x, 0, 4);
        Nets.bothWays(x, 0, 0, 2);
        Nets.bothWays(x, 0, 1, 3);
        due("26: two pairs", x.turnings(0), 8);
        int[] chain = {4, 2, 1, 1};
        for (int k = 0; k < 4; k++) {
            due("27: two pairs, " + k, x.chain(0, k), chain[k]);
            due("29: two pairs, " + k, x.orbit(0, k), 4);
        }
    }

    private static void whereToItself() {
        SameBench x = alike(0, 12);
        for (int i = 0; i < 12; i++) {
            x.where(0, 0, 11);
            due("28: to itself", x.where(0, i, i), 1);
            dueTurning("28: the least leaves all", x, 0, 1, 2, 3, 4, 5, 6, 7, 8, 9, 10, 11);
        }
    }

    private static void whereIsTheLeast() {
        SameBench x = new SameBench();
        Nets.ring(x, 0, 4);
        int[][] least = {{0, 1, 2, 3}, {1, 0, 3, 2}, {2, 1, 0, 3}, {3, 0, 1, 2}};
        for (int b = 0; b < 4; b++) {
            due("28: from 0", x.where(0, 0, b), 1);
            dueTurning("28: the least from 0 to " + b, x, least[b]);
        }
        int[][] from2 = {{2, 1, 0, 3}, {3, 0, 1, 2}, {0, 1, 2, 3}, {1, 0, 3, 2}};
        for (int b = 0; b < 4; b++) {
            due("28: from 2", x.where(0, 2, b), 1);
            dueTurning("28: the least from 2 to " + b, x, from2[b]);
        }
    }

    private static void whereNowhere() {
        SameBench x = new SameBench();
        Nets.path(x, 0, 3);
        due("28: an end to the middle", x.where(0, 0, 1), 0);
        due("30: none at hand", x.by(0), BAD);
        due("28: an end to the other", x.where(0, 0, 2), 1);
        due("28: the middle to an end", x.where(0, 1, 2), 0);
        dueTurning("30: the latest that was found", x, 2, 1, 0, BAD);
    }

    /** From the last thing to one ahead: what the lesser ones go to is found from that. */
    private static void whereBackwards() {
        SameBench x = new SameBench();
        Nets.ring(x, 0, 6);
        due("28: from 5 to 1", x.where(0, 5, 1), 1);
        dueTurning("28: from 5 to 1", x, 0, 5, 4, 3, 2, 1);
        due("28: from 4 to 1", x.where(0, 4, 1), 1);
        dueTurning("28: from 4 to 1", x, 3, 4, 5, 0, 1, 2);
    }

    /** Each thing has lines of 0, 1 and 2 in some order, to and from it, but to itself another v than the others. */
    private static void loopsThatSplittingCantTell() {
        SameBench x = new SameBench();
        Nets.things(x, 0, 3);
        int[][] lines = {{0, 2, 1}, {2, 1, 0}, {1, 0, 2}};
        for (int i = 0; i < 3; i++) for (int j = 0; j < 3; j++) x.place(0, i, j, lines[i][j]);
        for (int more = 0; more <= 2; more++) {
            due("16: one HEAP of those three", x.split(0), more == 0 ? 1 : 2);
            for (int i = 0; i < 3; i++) {
                due("27: goes nowhere, with " + more, x.chain(0, i), 1);
                due("29: goes nowhere, with " + more, x.orbit(0, i), 1);
                for (int j = 0; j < 3; j++) due("28: nowhere, with " + more, x.where(0, i, j), i == j ? 1 : 0);
            }
            due("26: those of the others alone", x.turnings(0), more == 2 ? 2 : 1);
            due("31: those of the others alone", x.makers(0), more == 2 ? 1 : 0);
            x.thing(0, 0, 1, 0);
        }
    }

    private static void orbitOfEach() {
        SameBench x = new SameBench();
        Nets.path(x, 0, 5);
        int[] orbit = {2, 2, 1, 2, 2};
        for (int i = 0; i < 5; i++) due("29: path, " + i, x.orbit(0, i), orbit[i]);
        due("29: below", x.orbit(0, -1), BAD);
        due("29: behind the last", x.orbit(0, 5), BAD);
    }

    private static void byOfOthers() {
        SameBench x = new SameBench();
        Nets.path(x, 0, 3);
        x.where(0, 0, 2);
        x.drop(0);
        dueTurning("30: it stays at hand", x, 2, 1, 0, BAD);
        Nets.things(x, 1, 1);
        x.where(1, 0, 0);
        dueTurning("30: only the latest is", x, 0, BAD, BAD, BAD);
        for (int i = 0; i < 12; i++) x.thing(2, 0, 0, 0);
        x.same(2, 2);
        due("30: the last one", x.by(11), 11);
        due("30: behind it", x.by(12), BAD);
        due("30: below", x.by(-1), BAD);
    }

    /** From the last thing to the first: the maker of the last two comes first. */
    private static void makersOfLast() {
        SameBench x = new SameBench();
        Nets.things(x, 0, 4);
        Nets.bothWays(x, 0, 0, 1);
        Nets.bothWays(x, 0, 2, 3);
        due("31: two pairs", x.makers(0), 3);
        dueMaker("32: the last ones", x, 0, 0, 1, 3, 2, BAD);
        dueMaker("32: the first ones, as numbered", x, 1, 1, 0, 2, 3, BAD);
        dueMaker("32: not led to by those", x, 2, 2, 3, 0, 1, BAD);
        due("32: no more", x.maker(3, 0), BAD);
    }

    /** A round one way: one maker leads from each to each, so there is none for the others. */
    private static void makersLeaveAllAhead() {
        SameBench x = new SameBench();
        Nets.things(x, 0, 12);
        for (int i = 0; i < 12; i++) x.place(0, i, (i + 1) % 12, 9);
        due("31: any number of times", x.makers(0), 1);
        dueMaker("32: the least from 0", x, 0, 1, 2, 3, 4, 5, 6, 7, 8, 9, 10, 11, 0);
        Nets.star(x, 1, 12);
        due("31: star", x.makers(1), 10);
        for (int m = 0; m < 10; m++) {
            for (int i = 0; i < 10 - m; i++) due("32: those ahead stay", x.maker(m, i), i);
            due("32: that goes to the next", x.maker(m, 10 - m), 11 - m);
        }
    }

    private static void makersAsFoundLatest() {
        SameBench x = alike(0, 3);
        x.thing(1, 0, 0, 0);
        x.thing(1, 0, 0, 0);
        due("31: two", x.makers(0), 2);
        x.drop(0);
        dueMaker("32: as found", x, 1, 1, 0, 2, BAD);
        x.turnings(1);
        x.chain(1, 0);
        x.orbit(1, 0);
        x.where(1, 0, 1);
        x.same(1, 1);
        dueMaker("32: others don't find MAKERS", x, 1, 1, 0, 2, BAD);
        due("31: one", x.makers(1), 1);
        dueMaker("32: only the latest", x, 0, 1, 0, BAD);
        due("32: those are gone", x.maker(1, 0), BAD);
        due("31: none", x.makers(2), 0);
        due("32: that is gone, too", x.maker(0, 0), BAD);
    }

    /** Each maker alone takes its thing to where the makers so far don't lead; a cube's ring has 48 turnings. */
    private static void makersMakeAll() {
        SameBench x = new SameBench();
        Nets.things(x, 0, 8);
        for (int i = 0; i < 8; i++) for (int bit = 1; bit < 8; bit *= 2) x.place(0, i, i ^ bit, 1);
        due("26: cube", x.turnings(0), 48);
        int[] chain = {8, 3, 2, 1, 1, 1, 1, 1};
        for (int k = 0; k < 8; k++) due("27: cube, " + k, x.chain(0, k), chain[k]);
        due("31: cube", x.makers(0), 3);
        dueMaker("32: cube", x, 0, 0, 1, 4, 5, 2, 3, 6, 7);
        dueMaker("32: cube", x, 1, 0, 2, 1, 3, 4, 6, 5, 7);
        dueMaker("32: cube", x, 2, 1, 0, 3, 2, 5, 4, 7, 6);
    }

    private static void thenAgainAndAgain() {
        SameBench x = new SameBench();
        Nets.things(x, 0, 12);
        for (int i = 0; i < 12; i++) x.place(0, i, (i + 1) % 12, 1);
        x.makers(0);
        x.where(0, 0, 0);
        for (int k = 1; k <= 24; k++) {
            due("33: once more", x.then(0), 1);
            for (int i = 0; i < 12; i++) due("33: turned " + k + " times", x.by(i), (i + k) % 12);
        }
    }

    /** The turning has to lead from just the makers' things to just these. */
    private static void thenOfJustThoseThings() {
        SameBench x = alike(0, 3);
        x.thing(1, 4, 0, 0);
        for (int i = 0; i < 3; i++) x.thing(1, 0, 0, 0);
        for (int i = 0; i < 4; i++) x.thing(2, i == 3 ? 4 : 0, 0, 0);
        x.same(0, 1);
        x.makers(0);
        due("33: to THINGS 1, 2, 3", x.then(0), NOT);
        x.same(1, 0);
        due("33: from THINGS 1, 2, 3", x.then(0), NOT);
        dueTurning("33: it stays", x, BAD, 0, 1, 2);
        x.same(0, 2);
        due("33: to THINGS 0, 1, 2", x.then(0), 1);
        dueTurning("33: to THINGS 0, 1, 2", x, 0, 2, 1, BAD);
        x.makers(1);
        due("33: of MAKERS with other THINGS", x.then(0), NOT);
        x.where(1, 1, 1);
        due("33: of just those", x.then(1), 1);
        dueTurning("33: of just those", x, BAD, 2, 1, 3);
    }

    private static void thenWithoutTheFirstOrTheLast() {
        for (int left : new int[] {0, 11}) {
            SameBench x = alike(0, 12);
            for (int i = 0; i < 12; i++) x.thing(1, i == left ? 4 : 0, 0, 0);
            x.where(1, 5, 6);
            x.makers(0);
            due("33: THING " + left + " is of the MAKERS alone", x.then(0), NOT);
            x.where(0, 5, 5);
            x.makers(1);
            due("33: THING " + left + " is of the TURNING alone", x.then(0), NOT);
            due("33: it stays", x.by(5), 5);
            x.where(1, 5, 5);
            due("33: THING " + left + " is of neither", x.then(0), 1);
            due("33: it is in none", x.by(left), BAD);
        }
    }

    private static void thenOfNone() {
        SameBench x = alike(0, 2);
        due("33: no MAKERS", x.then(0), BAD);
        x.makers(0);
        due("33: no TURNING", x.then(0), NOT);
        due("33: no TURNING, no such MAKER", x.then(1), BAD);
        x.same(6, 7);
        due("33: a TURNING of no THINGS", x.then(0), NOT);
        x.where(0, 1, 1);
        due("33: a TURNING", x.then(0), 1);
        due("33: no such MAKER", x.then(1), BAD);
        dueTurning("33: once", x, 1, 0, BAD);
    }

    private static void neverFull() {
        SameBench x = new SameBench();
        Nets.tooManyLeaves(x, 0);
        due("26: its TREE is FULL", x.turnings(0), 324);
        due("27: its TREE is FULL", x.chain(0, 9), 2);
        due("28: its TREE is FULL", x.where(0, 0, 8), 1);
        dueTurning("28: its TREE is FULL", x, 8, 6, 7, 0, 1, 2, 3, 4, 5, 9, 10, 11);
        due("28: to a round of 2", x.where(0, 0, 9), 0);
        due("29: its TREE is FULL", x.orbit(0, 11), 1);
        due("31: its TREE is FULL", x.makers(0), 6);
    }
}
