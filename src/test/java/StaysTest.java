import java.util.List;
import java.util.Map;

/** What each accepted call changes, and that all else stays as it was. */
public final class StaysTest {
    private static final Check CHECK = new Check();
    private static final Map<String, String> BEFORE = Photo.after(Photo::bench, x -> 0);

    public static void main(String[] args) {
        graphs();
        asking();
        partings();
        names();
        turnings();
        lists();
        CHECK.end("StaysTest");
    }

    /** The call answers as is due, changes each of the parts told, and no other one. */
    private static void changes(String what, long want, Photo.Call call, String... parts) {
        CHECK.due(what, call.on(Photo.bench()), want);
        Map<String, String> after = Photo.after(Photo::bench, call);
        for (String part : Photo.PARTS) {
            boolean same = after.get(part).equals(BEFORE.get(part));
            CHECK.same(what + " leaves as it was: " + part, same, !List.of(parts).contains(part));
        }
    }

    private static void changesNothing(String what, long want, Photo.Call call) {
        changes(what, want, call);
    }

    private static void graphs() {
        changes("2: thing", 5, x -> x.thing(0, 0, 0, 0), "graphs", "undo");
        changes("3: colour", 0, x -> x.colour(0, 1, 4), "graphs", "undo");
        changes("4: word", 5, x -> x.word(1, 0, 9), "graphs", "undo");
        changes("5: row", 1, x -> x.row(0, 0, 4), "graphs", "undo");
        changes("6: unrow", 5, x -> x.unrow(0, 0), "graphs", "undo");
        changes("7: place", 1, x -> x.place(0, 0, 1, 3), "graphs", "undo");
        changes("9: copy", 2, x -> x.copy(0, 0, 1, 7, 0, 2, 2), "graphs", "undo");
        changes("10: swap", 1, x -> x.swap(0, 0, 4), "graphs", "undo");
        changes("11: twin", 4, x -> x.twin(1, 0), "graphs", "undo");
        changes("12: drop", 5, x -> x.drop(0), "graphs", "undo");
        changes("15: undo", 7, x -> x.undo(), "graphs", "undo");
        changes("35: listed", 4, x -> x.listed(1, 0), "graphs", "undo");
        changes("15: what changes nothing can be undone, too", 0, x -> x.drop(5), "undo");
        changes("15: the same COLOUR", 0, x -> x.colour(0, 1, 0), "undo");
        changes("15: the same WORD", 5, x -> x.word(1, 0, 5), "undo");
        changes("15: a ROW of as many PLACES", 1, x -> x.row(0, 1, 0), "undo");
        changes("15: the same v", 1, x -> x.place(0, 0, 1, 1), "undo");
        changes("15: no PLACES copied", 0, x -> x.copy(0, 0, 0, 7, 0, 0, 0), "undo");
        changes("15: a GRAPH as it is", 4, x -> x.twin(1, 1), "undo");
        changes("15: a swap of one, and no ROW", 1, x -> x.swap(1, 0, 0), "undo");
    }

    private static void asking() {
        changesNothing("8: line", 1, x -> x.line(0, 0, 1));
        for (int what = 0; what < 5; what++) {
            int w = what;
            changesNothing("13: told", new int[] {0, 0, 0, 5, 0}[w], x -> x.told(0, 0, w));
            if (w < 4) changesNothing("14: count", new int[] {5, 4, 1, 20}[w], x -> x.count(0, w));
        }
        changesNothing("18: heapOf", 2, x -> x.heapOf(0));
        changesNothing("20: nameAt", 4, x -> x.nameAt(0));
        changesNothing("20: nameAt, how many", 21, x -> x.nameAt(-1));
        changesNothing("21: order", 1, x -> x.order(0));
        changesNothing("22: nodes", 3, x -> x.nodes());
        changesNothing("25: why", 0, x -> x.why(0));
        changesNothing("30: by", 4, x -> x.by(1));
        changesNothing("32: maker", 4, x -> x.maker(0, 2));
    }

    private static void partings() {
        changes("16: split", 4, x -> x.split(1), "parting");
        changes("16: split of none", 0, x -> x.split(4), "parting");
        changes("16: split of one that isn't RIGHT", 1, x -> x.split(2), "parting");
        changes("17: mark", 4, x -> x.mark(2), "parting");
        changesNothing("17: mark of what is alone", 3, x -> x.mark(1));
    }

    private static void names() {
        changes("19: name", 1, x -> x.name(1), "name");
        changes("19: FULL, there is none at hand then", -3, x -> x.name(3), "name");
        changes("23: same", 1, x -> x.same(0, 7), "turning");
        changesNothing("23: not the same", 0, x -> x.same(0, 1));
        changes("24: unlike, how many", 1, x -> x.unlike(0, 3), "why");
        changes("24: unlike, a KEY", 2, x -> x.unlike(1, 0), "why");
        changesNothing("24: nothing", 0, x -> x.unlike(0, 7));
    }

    private static void turnings() {
        changesNothing("26: turnings", 6, x -> x.turnings(0));
        changesNothing("26: turnings of another one", 324, x -> x.turnings(3));
        changesNothing("27: chain", 9, x -> x.chain(3, 0));
        changes("28: where", 1, x -> x.where(3, 0, 1), "turning");
        changesNothing("28: nowhere", 0, x -> x.where(3, 0, 9));
        changesNothing("29: orbit", 9, x -> x.orbit(3, 0));
        changes("31: makers", 6, x -> x.makers(3), "makers");
        changes("31: no makers", 0, x -> x.makers(1), "makers");
        changes("33: then", 1, x -> x.then(0), "turning");
    }

    private static void lists() {
        changes("34: list", 1, x -> x.list(3, 1), "list");
        changes("34: a longer list", 6, x -> x.list(5, 5), "list");
        changesNothing("34: the same list", 3, x -> x.list(4, 3));
    }
}
