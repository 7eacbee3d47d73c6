import java.util.LinkedHashMap;
import java.util.Map;

/** The sentences of "Changes and errors" and of promises 25 to 27 that name a boundary case. */
public final class ChangesTest {
    private interface Call {
        int on(ShelfSpines x);
    }

    private interface Maker {
        ShelfSpines make();
    }

    private static final String FULL_PROGRAM = "p0r0l0p6r5l5".repeat(5);

    /** ".dfb..h", some of them stuck, with accounts, a snapshot of another state, and 4 different states behind. */
    private static ShelfSpines rich() {
        ShelfSpines x = Given.stuck(Given.shelf("f.db..h", "5.19..3"), 3, 6);
        x.pull(2);
        x.save();
        x.set(ShelfSpines.FALLING, 1);
        x.pull(0);
        x.pull(3);
        return x;
    }

    /** "fd.b..h", and just 2 states behind. */
    private static ShelfSpines richWithTwoStates() {
        ShelfSpines x = rich();
        x.undo();
        x.undo();
        return x;
    }

    private static ShelfSpines richWithPad(String text) {
        return Given.type(rich(), text);
    }

    private static ShelfSpines full() {
        ShelfSpines x = rich();
        x.add(25, 9, 5);
        return x;
    }

    /** Whether two shelves are the same in all that can be seen, with the states behind, the snapshot and the pad. */
    private static void same(String call, ShelfSpines x, ShelfSpines y) {
        Due.same(call + ", behind it", Given.seen(x), Given.seen(y));
        for (int undone = 1; undone <= 5; undone++) {
            Due.same(call + ", undo " + undone, x.undo(), y.undo());
            Due.same(call + ", behind undo " + undone, Given.seen(x), Given.seen(y));
        }
        Due.same(call + ", restore", x.restore(), y.restore());
        Due.same(call + ", behind restore", Given.seen(x), Given.seen(y));
        Due.same(call + ", the program of the pad", x.run(), y.run());
        Due.same(call + ", the word of the pad", x.arrange(), y.arrange());
        Due.same(call + ", behind these", Given.word(x), Given.word(y));
        Due.same(call + ", the length of the pad", x.clear(), y.clear());
    }

    // ---- which calls are changes

    private static Map<String, Call> changes() {
        Map<String, Call> calls = new LinkedHashMap<>();
        calls.put("add a", x -> x.add(0, 9, 5));
        calls.put("add e", x -> x.add(4, 9, 5));
        calls.put("add z", x -> x.add(25, 9, 5));
        calls.put("remove b", x -> x.remove(3));
        calls.put("remove d", x -> x.remove(1));
        calls.put("remove h", x -> x.remove(6));
        calls.put("stick", x -> x.stick(0));
        calls.put("stick, loose then", x -> x.stick(6));
        calls.put("pull", x -> x.pull(0));
        calls.put("a pull that is refused", x -> x.pull(6));
        calls.put("push", x -> x.push(0, true));
        calls.put("a push that is refused", x -> x.push(0, false));
        calls.put("set CLOSED", x -> x.set(ShelfSpines.CLOSED, 1));
        calls.put("set FALLING", x -> x.set(ShelfSpines.FALLING, 0));
        calls.put("set to what it is", x -> x.set(ShelfSpines.CLOSED, 0));
        calls.put("arrange", x -> Given.type(x, "b..d.fh").arrange());
        calls.put("arrange as it is", x -> Given.type(x, Given.word(x)).arrange());
        calls.put("run", x -> Given.type(x, "p0r0l3").run());
        calls.put("restore", x -> x.restore());
        return calls;
    }

    private static Map<String, Call> noChanges() {
        Map<String, Call> calls = new LinkedHashMap<>();
        calls.put("append", x -> x.append('p'));
        calls.put("clear", x -> x.clear());
        calls.put("fault(0)", x -> x.fault(0));
        calls.put("fault(1)", x -> x.fault(1));
        calls.put("at", x -> x.at(0, 0));
        calls.put("whyNot", x -> x.whyNot(0));
        calls.put("cost", x -> x.cost(0));
        calls.put("leads", x -> x.leads(0));
        calls.put("word", x -> x.word(0, 0));
        calls.put("count", x -> x.count(5));
        for (int what = 0; what < 5; what++) {
            int which = what;
            calls.put("least, " + what, x -> x.least(0, which % 3));
            calls.put("plan, " + what, x -> x.plan(which % 2 == 0, which / 2));
            calls.put("all, " + what, x -> x.all(which));
            calls.put("round, " + what, x -> x.round(which % 4));
        }
        calls.put("mean", x -> (int) x.mean());
        calls.put("loosen", x -> x.loosen());
        calls.put("save", x -> x.save());
        return calls;
    }

    private static void whichCallsAreChanges() {
        Due.says("Changes and errors", "The changes are the calls of add, remove, stick, pull, push, set, arrange, run and"
                + " restore that return no error");
        changes().forEach((name, call) -> {
            ShelfSpines x = richWithTwoStates();
            Due.same(name + " is no error", call.on(x) >= 0 ? 1 : 0, 1);
            Due.same("states behind " + name, x.count(15), 3);
        });
        noChanges().forEach((name, call) -> {
            ShelfSpines x = richWithTwoStates();
            call.on(x);
            Due.same("states behind " + name, x.count(15), 2);
        });
        ShelfSpines x = richWithTwoStates();
        Due.same("undo", x.undo(), 1);
        Due.same("states behind undo", x.count(15), 1);
    }

    private static void refusedMovesAreChanges() {
        Due.says("Changes and errors", "a pull or push that is refused is one, too (it is counted).");
        ShelfSpines x = new ShelfSpines();
        Due.same("a pull of no book", x.pull(0), 1);
        Due.same("a push of no books", x.push(0, true), 3);
        Due.same("states", x.count(15), 2);
        Due.same("refused", x.count(10), 2);
        Due.same("undo", x.undo(), 1);
        Due.same("refused", x.count(10), 1);
        Due.same("undo", x.undo(), 0);
        Due.same("refused", x.count(10), 0);
    }

    private static void sameStatesAreRecorded() {
        Due.says("Changes and errors", "each change records everything before it but the pad and the snapshot (also if nothing"
                + " is different then)");
        ShelfSpines x = new ShelfSpines();
        Due.same("set to what it is", x.set(0, 0), 0);
        Due.same("states", x.count(15), 1);
        x.save();
        x.restore();
        Due.same("restore what it is", x.count(15), 2);
        Given.type(x, ".......").arrange();
        Due.same("arrange as it is", x.count(15), 3);
        Given.type(x, "p0").run();
        Due.same("a program of which no move is made", x.count(15), 4);
        Due.same("undo", x.undo(), 3);
        Due.same("undo", x.undo(), 2);
        Due.same("undo", x.undo(), 1);
        Due.same("undo", x.undo(), 0);
        Due.same("none", x.undo(), Given.IMPOSSIBLE);
    }

    private static void everythingIsRecorded() {
        Due.says("Promise 25", "Undoes the latest change: everything but the pad and the snapshot is as it was before it.");
        changes().forEach((name, call) -> {
            ShelfSpines x = richWithTwoStates();
            ShelfSpines y = richWithTwoStates();
            call.on(x);
            Due.same(name + ", undo", x.undo(), 2);
            x.clear();
            same(name + " undone", x, y);
        });
    }

    private static void padAndSnapshotAreNotUndone() {
        Due.says("Changes and errors", "but the pad and the snapshot");
        ShelfSpines x = Given.type(Given.shelf("a......"), "p");
        x.pull(0);
        x.append('0');
        x.save();
        Due.same("undo", x.undo(), 1);
        Due.same("the pad stays as it is", x.fault(0), Given.NOWHERE);
        Due.same("length", x.count(14), 2);
        Due.same("the snapshot stays as it is", x.restore(), Given.shelf(".a.....").count(5));
        Given.type(x, "a......").arrange();
        x.undo();
        Due.same("what arrange took is not given back", x.count(14), 0);
    }

    private static void fourStates() {
        Due.says("Changes and errors", "A history of at most 4 states is kept");
        ShelfSpines x = new ShelfSpines();
        for (int change = 1; change <= 9; change++) {
            x.pull(0);
            Due.same("states behind change " + change, x.count(15), Math.min(change, 4));
        }
        for (int left = 3; left >= 0; left--) {
            Due.same("undo", x.undo(), left);
            Due.same("refused", x.count(10), 5 + left);
        }
        Due.same("none", x.undo(), Given.IMPOSSIBLE);
        Due.same("the first 5 stay", x.count(10), 5);
    }

    private static void oldestIsDropped() {
        Due.says("Changes and errors", "and if there are 5 states then, the oldest one is dropped.");
        ShelfSpines x = new ShelfSpines();
        for (int letter = 0; letter < 5; letter++) {
            x.add(letter, 1, letter);
        }
        x.undo();
        x.undo();
        x.undo();
        Due.same("the fourth", x.undo(), 0);
        Due.same("one book is left", Given.word(x), "a......");
        Due.same("none", x.undo(), Given.IMPOSSIBLE);
        for (int letter = 1; letter < 5; letter++) {
            x.add(letter, 1, letter);
        }
        Due.same("4 changes", x.count(15), 4);
        x.undo();
        x.undo();
        x.undo();
        Due.same("the fourth", x.undo(), 0);
        Due.same("one book is left", Given.word(x), "a......");
    }

    private static void errorsAreRanked() {
        Due.says("Changes and errors", "INVALID_ARGUMENT is returned rather than NOT_POSSIBLE");
        ShelfSpines x = full();
        Due.same("add, the letter is there", x.add(1, 0, 4), Given.INVALID);
        Due.same("add, the place is taken", x.add(8, 10, 1), Given.INVALID);
        Due.same("add, the letter is there", x.add(1, 1, 7), Given.INVALID);
        Due.same("add, the place is taken", x.add(26, 1, 1), Given.INVALID);
        Due.same("round, an empty pad", x.round(4), Given.INVALID);
        Due.same("round, an empty pad", x.round(-1), Given.INVALID);
        Due.same("cost", new ShelfSpines().cost(19), Given.INVALID);
        Due.same("leads", new ShelfSpines().leads(-1), Given.INVALID);
        Due.same("remove", new ShelfSpines().remove(7), Given.INVALID);
        Due.same("stick", new ShelfSpines().stick(-1), Given.INVALID);
        Due.says("Changes and errors", "NOT_POSSIBLE rather than LIMIT_REACHED");
        Due.same("add, the letter is there", x.add(1, 1, 4), Given.IMPOSSIBLE);
        Due.same("add, the place is taken", x.add(8, 1, 6), Given.IMPOSSIBLE);
        Due.same("add, neither", x.add(8, 1, 4), Given.LIMIT);
        Due.says("Changes and errors", "and LIMIT_REACHED rather than NOT_FOUND.");
        Due.same("add, the range and the limit", x.add(8, 1, 7), Given.INVALID);
        Given.type(x, FULL_PROGRAM);
        Due.same("append, the range and the limit", x.append(32), Given.INVALID);
        Due.same("append, the range and the limit", x.append(127), Given.INVALID);
        Due.same("append, the limit", x.append(33), Given.LIMIT);
        Due.same("fault, the range and none", x.fault(2), Given.INVALID);
        Due.same("fault, none", x.fault(0), Given.NOWHERE);
        ShelfSpines y = Given.stuck(Given.shelf("ba....."), 0, 1);
        Due.same("at, the range and a gap", y.at(2, 6), Given.INVALID);
        Due.same("word, the range and a gap", y.word(42, 6), Given.INVALID);
        Due.same("word, the range and a gap", y.word(41, 7), Given.INVALID);
        Due.same("least, the range and none", y.least(41, 3), Given.INVALID);
        Due.same("least, the range and none", y.least(42, 0), Given.INVALID);
        Due.same("plan, the range and none", y.plan(false, -1), Given.INVALID);
    }

    // ---- errors change nothing

    private static void unchanged(String name, Maker maker, int due, Call call) {
        ShelfSpines x = maker.make();
        Due.same(name, call.on(x), due);
        same(name, x, maker.make());
    }

    private static void invalidBooks() {
        int[][] wrong = {{-1, 1, 5}, {26, 1, 5}, {25, 0, 5}, {25, 10, 5}, {25, 1, -1}, {25, 1, 7}};
        for (int[] w : wrong) {
            unchanged("add out of range", ChangesTest::rich, Given.INVALID, x -> x.add(w[0], w[1], w[2]));
        }
        unchanged("add, the letter is there", ChangesTest::rich, Given.IMPOSSIBLE, x -> x.add(1, 1, 5));
        unchanged("add, the place is taken", ChangesTest::rich, Given.IMPOSSIBLE, x -> x.add(25, 1, 6));
        unchanged("add to 5", ChangesTest::full, Given.LIMIT, x -> x.add(24, 1, 4));
        for (int place : new int[] {-1, 7}) {
            unchanged("remove(" + place + ")", ChangesTest::rich, Given.INVALID, x -> x.remove(place));
            unchanged("stick(" + place + ")", ChangesTest::rich, Given.INVALID, x -> x.stick(place));
            unchanged("pull(" + place + ")", ChangesTest::rich, Given.INVALID, x -> x.pull(place));
        }
        unchanged("remove a gap", ChangesTest::rich, Given.IMPOSSIBLE, x -> x.remove(5));
        unchanged("stick a gap", ChangesTest::rich, Given.IMPOSSIBLE, x -> x.stick(5));
        for (int place : new int[] {-1, 6}) {
            unchanged("push(" + place + ", true)", ChangesTest::rich, Given.INVALID, x -> x.push(place, true));
            unchanged("push(" + place + ", false)", ChangesTest::rich, Given.INVALID, x -> x.push(place, false));
        }
        int[][] settings = {{-1, 0}, {2, 0}, {0, -1}, {0, 2}, {1, -1}, {1, 2}};
        for (int[] s : settings) {
            unchanged("set(" + s[0] + ", " + s[1] + ")", ChangesTest::rich, Given.INVALID, x -> x.set(s[0], s[1]));
        }
    }

    private static void invalidTexts() {
        for (int code : new int[] {32, 127}) {
            unchanged("append(" + code + ")", () -> richWithPad("p0p"), Given.INVALID, x -> x.append(code));
        }
        unchanged("append to 60", () -> richWithPad(FULL_PROGRAM), Given.LIMIT, x -> x.append('p'));
        for (int way : new int[] {-1, 2}) {
            unchanged("fault(" + way + ")", () -> richWithPad("p0p"), Given.INVALID, x -> x.fault(way));
        }
        unchanged("fault(0), none", () -> richWithPad("p0"), Given.NOWHERE, x -> x.fault(0));
        unchanged("fault(1), none", () -> richWithPad("h.f.d.b"), Given.NOWHERE, x -> x.fault(1));
        for (String text : new String[] {"", "h.f.d.", "h.f.d.b.", "h.f.d.h", "p0"}) {
            unchanged("arrange " + text, () -> richWithPad(text), Given.IMPOSSIBLE, x -> x.arrange());
        }
        for (String text : new String[] {"", "p", "p0p", "p0p7", "p0p0..", "h.f.d.b"}) {
            unchanged("run " + text, () -> richWithPad(text), Given.IMPOSSIBLE, x -> x.run());
            unchanged("round of " + text, () -> richWithPad(text), Given.IMPOSSIBLE, x -> x.round(0));
        }
        unchanged("round(4)", () -> richWithPad("p0p1"), Given.INVALID, x -> x.round(4));
        unchanged("round(-1)", () -> richWithPad("p0p1"), Given.INVALID, x -> x.round(-1));
    }

    private static void invalidLooks() {
        unchanged("at(-1, 0)", ChangesTest::rich, Given.INVALID, x -> x.at(-1, 0));
        unchanged("at(7, 0)", ChangesTest::rich, Given.INVALID, x -> x.at(7, 0));
        unchanged("at(0, 6)", ChangesTest::rich, Given.INVALID, x -> x.at(0, 6));
        unchanged("at a gap", ChangesTest::rich, Given.NOWHERE, x -> x.at(5, 3));
        for (int move : new int[] {-1, 19}) {
            unchanged("whyNot(" + move + ")", ChangesTest::rich, Given.INVALID, x -> x.whyNot(move));
            unchanged("cost(" + move + ")", ChangesTest::rich, Given.INVALID, x -> x.cost(move));
            unchanged("leads(" + move + ")", ChangesTest::rich, Given.INVALID, x -> x.leads(move));
        }
        unchanged("cost, refused", ChangesTest::rich, Given.IMPOSSIBLE, x -> x.cost(5));
        unchanged("leads, refused", ChangesTest::rich, Given.IMPOSSIBLE, x -> x.leads(5));
        unchanged("word(840, 0)", ChangesTest::rich, Given.INVALID, x -> x.word(840, 0));
        unchanged("word(0, 7)", ChangesTest::rich, Given.INVALID, x -> x.word(0, 7));
        unchanged("word, a gap", ChangesTest::rich, Given.NOWHERE, x -> x.word(0, 0));
        unchanged("count(16)", ChangesTest::rich, Given.INVALID, x -> x.count(16));
        unchanged("least(840, 0)", ChangesTest::rich, Given.INVALID, x -> x.least(840, 0));
        unchanged("least(0, 3)", ChangesTest::rich, Given.INVALID, x -> x.least(0, 3));
        unchanged("plan(true, -1)", ChangesTest::rich, Given.INVALID, x -> x.plan(true, -1));
        unchanged("plan, not so many", ChangesTest::rich, Given.NOWHERE, x -> x.plan(true, Given.MAX));
        unchanged("all(5)", ChangesTest::rich, Given.INVALID, x -> x.all(5));
        unchanged("loosen", () -> Given.shelf("ba....."), Given.NOWHERE, x -> x.loosen());
        unchanged("undo", ChangesTest::withoutStates, Given.IMPOSSIBLE, x -> x.undo());
        unchanged("restore", () -> Given.shelf("ba....."), Given.IMPOSSIBLE, x -> x.restore());
    }

    private static ShelfSpines withoutStates() {
        ShelfSpines x = rich();
        for (int undone = 0; undone < 4; undone++) {
            x.undo();
        }
        return x;
    }

    private static void errorsChangeNothing() {
        Due.says("Changes and errors", "A call that returns an error changes nothing (the pad stays, too).");
        invalidBooks();
        invalidTexts();
        invalidLooks();
    }

    private static void looksChangeNothing() {
        Due.says("Changes and errors", "Ahead of the calls `least`, `plan`, `all`, `mean`, `round`, `loosen` the interface says:"
                + " ---- how far; nothing is changed.");
        noChanges().forEach((name, call) -> {
            if (!name.equals("append") && !name.equals("clear") && !name.equals("save")) {
                ShelfSpines x = richWithPad("p0r2l4p6");
                call.on(x);
                same(name, x, richWithPad("p0r2l4p6"));
            }
        });
    }

    // ---- promises 25 to 27

    private static void undoAnswers() {
        Due.says("Promise 25", "Returns how many states the history has then; NOT_POSSIBLE if it has none.");
        ShelfSpines x = new ShelfSpines();
        Due.same("a new object", x.undo(), Given.IMPOSSIBLE);
        x.add(0, 1, 0);
        Due.same("one change", x.undo(), 0);
        Due.same("none is left", x.undo(), Given.IMPOSSIBLE);
        ShelfSpines y = rich();
        for (int left = 3; left >= 0; left--) {
            Due.same("undo", y.undo(), left);
        }
        Due.same("none is left", y.undo(), Given.IMPOSSIBLE);
        y.pull(0);
        Due.same("a change behind it", y.count(15), 1);
        Due.same("undo", y.undo(), 0);
    }

    private static void saveAnswers() {
        Due.says("Promise 26", "Returns the rank of the word.");
        Due.same("no books", new ShelfSpines().save(), 0);
        Due.same("the first", Given.shelf(".....ab").save(), 0);
        Due.same("the last", Given.shelf("ba.....").save(), 41);
        Due.same("the last of 5", Given.shelf("edcba..").save(), 2519);
        Due.says("Promise 26", "in place of the one that was.");
        ShelfSpines x = Given.shelf("ba.....");
        x.save();
        x.pull(0);
        Due.same("another one", x.save(), x.count(5));
        x.remove(2);
        x.restore();
        Due.same("the word", Given.word(x), ".ab....");
        Due.same("the accounts", x.count(8), 1);
    }

    private static void snapshotOfEverything() {
        Due.says("Promise 26", "Takes a snapshot of everything but the pad and the history");
        changes().forEach((name, call) -> {
            ShelfSpines x = richWithTwoStates();
            ShelfSpines y = richWithTwoStates();
            x.save();
            Due.same(name + " is no error", call.on(x) >= 0 ? 1 : 0, 1);
            x.restore();
            y.set(0, 1);
            y.set(0, 1);
            x.clear();
            Due.same("restored behind " + name, Given.seen(x), Given.seen(y));
        });
        ShelfSpines x = Given.type(Given.shelf("a......"), "p0");
        x.save();
        x.clear();
        x.undo();
        x.restore();
        Due.same("not the pad", x.count(14), 0);
        Due.same("not the history", x.count(15), 1);
    }

    private static void restoreAnswers() {
        Due.says("Promise 27", "Returns the rank of the word then; NOT_POSSIBLE if there is none.");
        ShelfSpines x = Given.shelf("ba.....");
        Due.same("none", x.restore(), Given.IMPOSSIBLE);
        x.save();
        x.remove(0);
        Due.same("rank", x.restore(), 41);
        Due.same("rank of now", x.count(5), 41);
        ShelfSpines y = new ShelfSpines();
        y.save();
        y.add(0, 1, 0);
        Due.same("no books", y.restore(), 0);
        Due.same("books", y.count(0), 0);
        Due.says("Promise 27", "Restores the snapshot, which stays.");
        for (int turn = 0; turn < 3; turn++) {
            x.remove(turn % 2);
            x.stick(1 - turn % 2);
            Due.same("once more", x.restore(), 41);
            Due.same("the word", Given.word(x), "ba.....");
            Due.same("loose", x.count(1), 0);
        }
    }

    private static void restoreIsUndone() {
        Due.says("Promise 27", "Restores the snapshot");
        ShelfSpines x = richWithTwoStates();
        ShelfSpines y = richWithTwoStates();
        x.restore();
        Due.same("a state more", x.count(15), 3);
        Due.same("undo", x.undo(), 2);
        same("restore undone", x, y);
    }

    private static void constants() {
        Due.says("Changes and errors", "`INVALID_ARGUMENT = -1`: An argument is out of its range.");
        Due.same("INVALID_ARGUMENT", ShelfSpines.INVALID_ARGUMENT, -1);
        Due.says("Changes and errors", "`NOT_POSSIBLE = -2`: The call is not possible in the present state.");
        Due.same("NOT_POSSIBLE", ShelfSpines.NOT_POSSIBLE, -2);
        Due.says("Changes and errors", "`LIMIT_REACHED = -3`: A fixed limit has been reached.");
        Due.same("LIMIT_REACHED", ShelfSpines.LIMIT_REACHED, -3);
        Due.says("Changes and errors", "`NOT_FOUND = -4`: There is no such value.");
        Due.same("NOT_FOUND", ShelfSpines.NOT_FOUND, -4);
        Due.says("Changes and errors", "`FALLING = 0, CLOSED = 1`: Numbers of the settings.");
        Due.same("FALLING", ShelfSpines.FALLING, 0);
        Due.same("CLOSED", ShelfSpines.CLOSED, 1);
    }

    public static void main(String[] args) {
        whichCallsAreChanges();
        refusedMovesAreChanges();
        sameStatesAreRecorded();
        everythingIsRecorded();
        padAndSnapshotAreNotUndone();
        fourStates();
        oldestIsDropped();
        errorsAreRanked();
        errorsChangeNothing();
        looksChangeNothing();
        undoAnswers();
        saveAnswers();
        snapshotOfEverything();
        restoreAnswers();
        restoreIsUndone();
        constants();
        Due.end();
    }
}
