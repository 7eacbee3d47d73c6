/** The sentences of "Texts" and of promises 8 to 12 and 23 that name a boundary case. */
public final class TextsTest {
    private static final String FULL_PROGRAM = "p0r0l0p6r5l5".repeat(5);

    private static void faults(ShelfSpines x, int way, String... textsAndFaults) {
        for (int i = 0; i < textsAndFaults.length; i += 2) {
            String due = textsAndFaults[i + 1];
            Given.type(x, textsAndFaults[i]);
            Due.same("fault(" + way + ") of " + textsAndFaults[i], x.fault(way), due.equals("-") ? Given.NOWHERE : Integer.parseInt(due));
        }
    }

    // ---- the section "Texts"

    private static void pad() {
        Due.says("Texts", "There is a pad of at most 60 characters, initially empty.");
        ShelfSpines x = new ShelfSpines();
        Due.same("at first", x.count(14), 0);
        Due.same("at first", x.clear(), 0);
        for (int length = 1; length <= 60; length++) {
            Due.same("append", x.append('p'), length);
        }
        Due.same("61", x.append('p'), Given.LIMIT);
        Due.same("length", x.count(14), 60);
        Due.same("nothing is lost", Given.type(x, FULL_PROGRAM).fault(0), Given.NOWHERE);
    }

    private static void oneOrMoreMoves() {
        Due.says("Texts", "A program: one or more moves, one behind the other");
        ShelfSpines x = new ShelfSpines();
        faults(x, 0, "", "0", "p0", "-", "p0p0", "-", FULL_PROGRAM, "-", "p0.p0", "2", "p00", "2", ".p0", "0");
    }

    private static void digits(char kind, int places) {
        ShelfSpines x = new ShelfSpines();
        for (char digit = '!'; digit <= '~'; digit++) {
            boolean fits = digit >= '0' && digit < '0' + places;
            faults(x, 0, "" + kind + digit, fits ? "-" : "1");
        }
    }

    private static void kindsOfMoves() {
        Due.says("Texts", "\"p\" and a digit 0 to 6 (a pull there)");
        digits('p', 7);
        Due.same("p6", Given.type(Given.shelf("......a"), "p6").run(), 1);
        Due.same("p0", Given.type(Given.shelf("a......"), "p0").run(), 1);
        Due.says("Texts", "\"r\" and a digit 0 to 5 (a push to the right there)");
        digits('r', 6);
        Due.same("r0", Given.type(Given.shelf("ab....."), "r0").run(), 1);
        Due.same("r4", Given.type(Given.shelf("....ab."), "r4").run(), 1);
        Due.same("r5", Given.type(Given.shelf(".....ab"), "r5").run(), 0);
        Due.says("Texts", "\"l\" and a digit 0 to 5 (a push to the left there)");
        digits('l', 6);
        Due.same("l0", Given.type(Given.shelf("ab....."), "l0").run(), 0);
        Due.same("l1", Given.type(Given.shelf(".ab...."), "l1").run(), 1);
        Due.same("l5", Given.type(Given.shelf(".....ab"), "l5").run(), 1);
    }

    private static void otherKinds() {
        Due.says("Texts", "no pad of that kind begins with the characters before it and this character");
        for (char kind = '!'; kind <= '~'; kind++) {
            boolean fits = kind == 'p' || kind == 'r' || kind == 'l';
            faults(new ShelfSpines(), 0, kind + "0", fits ? "-" : "0", "p0" + kind + "0", fits ? "-" : "2");
        }
        ShelfSpines x = Given.shelf("b....a.");
        faults(x, 1, "......", "5", "b.....", "6", "a.....b", "-", "......b", "5");
    }

    private static void sevenSigns() {
        Due.says("Texts", "A word: 7 signs, each \".\" or one of the letters of the books of now, with each of these"
                + " letters just once.");
        ShelfSpines x = Given.shelf("a.m...z");
        faults(x, 1, "amz...", "6", "amz....", "-", "amz.....", "7", "....zma", "-", "..z.m.a", "-");
        faults(x, 1, "b", "0", "A", "0", "l", "0", "y", "0", "a...n", "4", "`", "0", "{", "0", "M", "0");
        faults(x, 1, "aa", "1", "a.a", "2", "amzz", "3", "zm..z", "4", "a.....", "5", "am....", "6", "am.....", "6");
        faults(new ShelfSpines(), 1, ".......", "-", "......", "6", "........", "7", "a", "0");
        faults(Given.shelf("abcde"), 1, "..abcde", "-", "ab.cd.e", "-", "...", "2", "edcba.", "6", "edcbaa", "5");
    }

    private static void lettersOfNow() {
        Due.says("Texts", "one of the letters of the books of now");
        ShelfSpines x = Given.type(Given.shelf("a......"), "a.b....");
        Due.same("b does not stand there", x.fault(1), 2);
        x.add(1, 1, 6);
        Due.same("b stands there", x.fault(1), Given.NOWHERE);
        x.add(2, 1, 5);
        Due.same("c stands there, too", x.fault(1), 6);
        x.remove(0);
        Due.same("a is gone", x.fault(1), 0);
    }

    private static void firstOfSeveralFaults() {
        Due.says("Texts", "is the position, from 0, of the first character that is wrong");
        faults(new ShelfSpines(), 0, "x0y0", "0", "p7r6", "1", "p0q0q0", "2", "r5r6r7", "3", "p0".repeat(29) + "p7", "59");
        faults(Given.shelf("ab....."), 1, "c.d....", "0", "a.aa..b", "2", "ab.....xy", "7", ".......", "5");
    }

    private static void notComplete() {
        Due.says("Texts", "if there is none, and the pad is not complete (also if it is empty), the length of the pad.");
        faults(new ShelfSpines(), 0, "", "0", "p", "1", "r", "1", "l", "1", "p0r", "3", FULL_PROGRAM.substring(0, 59), "59");
        faults(Given.shelf("ba....."), 1, "", "0", "a", "1", "a.", "2", "a..", "3", "a...", "4", "a...b", "5", "a...b.", "6");
        faults(new ShelfSpines(), 1, "", "0", ".", "1", "......", "6");
    }

    private static void refusedOnesArePassedOver() {
        Due.says("Texts", "To run a program: its moves are made, one after the other; one that is refused is passed over"
                + " (and counted as refused).");
        ShelfSpines x = Given.stuck(Given.shelf("ab....c"), 1);
        Due.same("moves made", Given.type(x, "p3p0p1r5l0p6r1l2").run(), 4);
        Due.same("the word", Given.word(x), ".ba..c.");
        Due.same("made", x.count(8), 4);
        Due.same("paid", x.count(9), 1 + 3 + 2 + 2);
        Due.same("refused", x.count(10), 4);
    }

    private static void rounds(String word, String program, int lead, int cycle, int costs, int disorder) {
        ShelfSpines x = Given.type(Given.shelf(word), program);
        int[] due = {lead, cycle, costs, disorder};
        for (int what = 0; what < due.length; what++) {
            Due.same(word + " " + program + ": round(" + what + ")", x.round(what), due[what]);
        }
    }

    private static void leadAndCycle() {
        Due.says("Texts", "The lead is the number of rounds ahead of the first time that the word comes that is the first"
                + " one to come again; the cycle is the number of rounds from that time to the next time that it comes.");
        rounds(".......", "p0", 0, 1, 0, 0);
        rounds("a......", "p6", 0, 1, 0, 0);
        rounds("a......", "p0p1", 0, 1, 2, 0);
        rounds("a......", "p1p0", 1, 1, 2, 0);
        rounds("......a", "p1p2p3p4p5p6", 6, 1, 0, 0);
        // b.c.a.. bc..a.. .bca... cb.a... bc.a... cb.a...
        rounds("b.c.a..", "r0p2l3", 3, 2, 11, 2);
        // ab.c... bc.a... ca.b... ab.c...
        rounds("ab.c...", "p3p0l1", 0, 3, 20, 0);
        // ab.c... bac.... acb.... cba.... bac....
        rounds("ab.c...", "p0p1l2", 1, 3, 20, 0);
    }

    // ---- promises 8 and 9

    private static void append() {
        Due.says("Promise 8", "- `code`: the character code, 33 to 126");
        ShelfSpines x = new ShelfSpines();
        for (int wrong : new int[] {32, 127, 0, -1, Given.MIN, Given.MAX, 256 + 'p'}) {
            Due.same("append(" + wrong + ")", x.append(wrong), Given.INVALID);
        }
        Due.same("append(33)", x.append(33), 1);
        Due.same("append(126)", x.append(126), 2);
        Due.says("Promise 8", "Returns the length of the pad then; INVALID_ARGUMENT; LIMIT_REACHED if it has 60 characters.");
        for (int length = 3; length <= 60; length++) {
            Due.same("append", x.append('a'), length);
        }
        Due.same("60 characters", x.append('a'), Given.LIMIT);
        Due.same("and once more", x.append('a'), Given.LIMIT);
        x.clear();
        Due.same("cleared", x.append('a'), 1);
    }

    private static void clear() {
        Due.says("Promise 9", "Empties the pad.");
        ShelfSpines x = Given.type(Given.shelf("a......"), "p0p");
        x.clear();
        Due.same("length", x.count(14), 0);
        Due.same("fault(0)", x.fault(0), 0);
        Due.same("run", x.run(), Given.IMPOSSIBLE);
        x.append('.');
        Due.same("what is written then", x.fault(1), 1);
        Due.says("Promise 9", "Returns the length that it had.");
        Due.same("1", x.clear(), 1);
        Due.same("0", x.clear(), 0);
        Due.same("60", Given.type(x, FULL_PROGRAM).clear(), 60);
    }

    private static void nothingOfAnOlderText() {
        Due.says("Promise 9", "Empties the pad");
        ShelfSpines x = Given.shelf("a......");
        Due.same("60 characters", Given.type(x, "p0p1".repeat(15)).run(), 30);
        Due.same("2 characters", Given.type(x, "p0").run(), 1);
        Due.same("back", Given.type(x, "p1").run(), 1);
        Due.same("2 characters come round", Given.type(x, "p0").round(2), 0);
        Due.same("1 character", Given.type(x, "p").fault(0), 1);
        Given.type(x, "......a").arrange();
        Due.same("what arrange took", Given.type(x, ".").fault(1), 1);
        Due.same("and as a program", Given.type(x, "").fault(0), 0);
    }

    // ---- promise 10

    private static void fault() {
        Due.says("Promise 10", "- `way`: 0 if it is read as a program, 1 if it is read as a word");
        ShelfSpines x = Given.shelf("p......");
        Due.same("-1", x.fault(-1), Given.INVALID);
        Due.same("2", x.fault(2), Given.INVALID);
        Due.same("the least", x.fault(Given.MIN), Given.INVALID);
        Due.same("the greatest", x.fault(Given.MAX), Given.INVALID);
        faults(x, 0, "p6", "-", "p......", "1");
        faults(x, 1, "p6", "1", "p......", "-");
        Due.says("Promise 10", "Returns the fault; INVALID_ARGUMENT; NOT_FOUND if it has none.");
        Due.same("as a word", x.fault(1), Given.NOWHERE);
        Due.same("as a program", x.fault(0), 1);
        Due.same("the pad stays", x.count(14), 7);
    }

    // ---- promise 11

    private static void arrange() {
        Due.says("Promise 11", "Returns the rank of the word");
        ShelfSpines x = Given.shelf("ab.....");
        Due.same("the first", Given.type(x, ".....ab").arrange(), 0);
        Due.same("the last", Given.type(x, "ba.....").arrange(), 41);
        Due.same("of now", x.count(5), 41);
        Due.same("no books", Given.type(new ShelfSpines(), ".......").arrange(), 0);
        Due.same("5 books", Given.type(Given.shelf("abcde.."), "edcba..").arrange(), 2519);
        for (int rank = 0; rank < 2520; rank += 89) {
            ShelfSpines y = Given.shelf("eb.a.cd");
            String word = Given.word(y, rank);
            Due.same(word, Given.type(y, word).arrange(), rank);
            Due.same(word + " stands there", Given.word(y), word);
        }
        Due.says("Promise 11", "NOT_POSSIBLE if the pad has a fault, read as a word.");
        Due.same("empty", x.arrange(), Given.IMPOSSIBLE);
        for (String text : new String[] {"ab....", "ab......", "a......", "abc....", "aab....", "p0"}) {
            Due.same(text, Given.type(x, text).arrange(), Given.IMPOSSIBLE);
            Due.same(text + " stays", x.count(14), text.length());
        }
        Due.same("the word stays", Given.word(x), "ba.....");
    }

    private static void arrangeCountsNoMove() {
        Due.says("Promise 11", "Sets the books up as the word of the pad tells (no move is counted), and empties the pad.");
        ShelfSpines x = Given.stuck(Given.shelf("bca....", "937...."), 0, 1);
        x.pull(2);
        Due.same("arrange", Given.type(x, "..a.c.b").arrange() >= 0 ? 1 : 0, 1);
        Due.same("the word", Given.word(x), "..a.c.b");
        Due.same("the weights go along", x.at(2, 1) * 100 + x.at(4, 1) * 10 + x.at(6, 1), 739);
        Due.same("being stuck goes along", x.at(2, 2) * 100 + x.at(4, 2) * 10 + x.at(6, 2), 11);
        Due.same("made", x.count(8), 1);
        Due.same("paid", x.count(9), 7);
        Due.same("refused", x.count(10), 0);
        Due.same("the pad", x.count(14), 0);
        Due.same("once more", x.arrange(), Given.IMPOSSIBLE);
    }

    // ---- promise 12

    private static void run() {
        Due.says("Promise 12", "Returns how many moves are made");
        ShelfSpines x = Given.shelf("a......");
        Due.same("none", Given.type(x, "p6").run(), 0);
        Due.same("one", Given.type(x, "p0").run(), 1);
        Due.same("one of two", Given.type(x, "p0p1").run(), 1);
        Due.same("30", Given.type(x, "p0p1".repeat(15)).run(), 30);
        Due.same("30 and those before", x.count(8), 32);
        Due.same("no books", Given.type(new ShelfSpines(), FULL_PROGRAM).run(), 0);
        Due.says("Promise 12", "NOT_POSSIBLE if the pad has a fault, read as a program.");
        for (String text : new String[] {"", "p", "p0p", "p0p7", "p0x0", "a......"}) {
            Due.same(text, Given.type(x, text).run(), Given.IMPOSSIBLE);
            Due.same(text + " stays", x.count(14), text.length());
        }
        Due.same("no move of it is made", x.count(8), 32);
        Due.says("Promise 12", "Runs the program of the pad, which stays.");
        Due.same("once", Given.type(x, "p0p1p0").run(), 3);
        Due.same("length", x.count(14), 6);
        Due.same("once more", x.run(), 2);
        Due.same("length", x.count(14), 6);
        Due.same("the word", Given.word(x), ".a.....");
    }

    // ---- promise 23

    private static void roundRange() {
        Due.says("Promise 23", "- `what`: 0: the lead; 1: the cycle;");
        ShelfSpines x = Given.type(Given.shelf("a......"), "p1p0");
        Due.same("-1", x.round(-1), Given.INVALID);
        Due.same("4", x.round(4), Given.INVALID);
        Due.same("the least", x.round(Given.MIN), Given.INVALID);
        Due.same("the greatest", x.round(Given.MAX), Given.INVALID);
        Due.same("0", x.round(0), 1);
        Due.same("3", x.round(3), 0);
        Due.says("Promise 23", "NOT_POSSIBLE if the pad has a fault, read as a program.");
        for (String text : new String[] {"", "p", "p0p", "p7", "a......"}) {
            Given.type(x, text);
            for (int what = 0; what < 4; what++) {
                Due.same(text + ": round(" + what + ")", x.round(what), Given.IMPOSSIBLE);
            }
        }
    }

    private static void roundCosts() {
        Due.says("Promise 23", "2: the costs of all moves made in a cycle");
        rounds("..a....", "p2", 1, 1, 0, 0);
        rounds(".b.....", "p1p0p0", 0, 1, 4, 0);
        // One step to the left in each round of the lead; in the cycle one there and one back.
        ShelfSpines x = Given.type(Given.shelf("...a...", "...9..."), "p1p2p3p0");
        Due.same("lead", x.round(0), 2);
        Due.same("cycle", x.round(1), 1);
        Due.same("costs", x.round(2), 18);
        x.run();
        Due.same("the moves that were made before are no part of it", x.round(2), 18);
    }

    private static void roundDisorder() {
        Due.says("Promise 23", "3: the least disorder of a word ahead of a round of the lead and the cycle");
        // ab.c... and behind this bac.... acb.... cba.... again and again
        rounds("ab.c...", "p0p1l2", 1, 3, 20, 0);
        // cba.... and behind this .abc... .bca... .cab... again and again
        rounds("cba....", "p1l2p0", 1, 3, 20, 0);
        // bac.... and cab.... by turns; .abc... comes amid a round
        rounds("bac....", "p0p2p3", 0, 2, 15, 1);
        rounds("cba....", "p6", 0, 1, 0, 3);
        ShelfSpines x = Given.type(Given.shelf("cba...."), "p6");
        x.set(ShelfSpines.FALLING, 1);
        Due.same("falling", x.round(3), 0);
        x.set(ShelfSpines.CLOSED, 1);
        Due.same("closed", x.round(3), 0);
    }

    private static void roundChangesNothing() {
        Due.says("Promise 23", "from the word of now on; nothing is changed or counted.");
        ShelfSpines x = Given.type(Given.stuck(Given.shelf("b.c.a.."), 2), "r0p2l3p4");
        String before = Given.seen(x);
        Due.same("round(0)", x.round(0) >= 0 ? 1 : 0, 1);
        Due.same("behind it", Given.seen(x), before);
        x.pull(4);
        int lead = x.round(0);
        x.run();
        Due.same("from the next word on", x.round(0), Math.max(lead - 1, 0));
    }

    public static void main(String[] args) {
        pad();
        oneOrMoreMoves();
        kindsOfMoves();
        otherKinds();
        sevenSigns();
        lettersOfNow();
        firstOfSeveralFaults();
        notComplete();
        refusedOnesArePassedOver();
        leadAndCycle();
        append();
        clear();
        nothingOfAnOlderText();
        fault();
        arrange();
        arrangeCountsNoMove();
        run();
        roundRange();
        roundCosts();
        roundDisorder();
        roundChangesNothing();
        Due.end();
    }
}
