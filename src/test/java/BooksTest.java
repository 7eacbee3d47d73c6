/** The sentences of promises 1 to 4, 7, 13, 17 and 18 that name a boundary case. */
public final class BooksTest {
    private static final int[] FAR = {Given.MIN, -2, 100, Given.MAX};

    // ---- promise 1

    private static void shelfOfGaps() {
        Due.says("Promise 1", "Creates a shelf of gaps.");
        ShelfSpines x = new ShelfSpines();
        Due.same("the word", Given.word(x), ".......");
        for (int place = 0; place < 7; place++) {
            Due.same("at(" + place + ", 5)", x.at(place, 5), place);
        }
        int[] counts = {0, 0, 0, 1, 0, 0, 1, 1, 0, 0, 0, 0, 0, 0, 0, 0};
        for (int what = 0; what < counts.length; what++) {
            Due.same("count(" + what + ")", x.count(what), counts[what]);
        }
        new ShelfSpines().add(0, 1, 0);
        Due.same("another object", x.count(0), 0);
    }

    // ---- promise 2

    private static void addRanges() {
        Due.says("Promise 2", "- `letter`: 0 to 25 for a to z");
        ShelfSpines x = new ShelfSpines();
        Due.same("-1", x.add(-1, 1, 0), Given.INVALID);
        Due.same("26", x.add(26, 1, 0), Given.INVALID);
        Due.same("0", x.add(0, 1, 0), 1);
        Due.same("25", x.add(25, 1, 1), 2);
        Due.same("the letters", x.at(0, 0) * 100 + x.at(1, 0), 25);
        Due.says("Promise 2", "- `weight`: 1 to 9");
        Due.same("0", x.add(1, 0, 2), Given.INVALID);
        Due.same("10", x.add(1, 10, 2), Given.INVALID);
        Due.same("1", x.add(1, 1, 2), 3);
        Due.same("9", x.add(2, 9, 3), 4);
        Due.same("the weights", x.at(2, 1) * 10 + x.at(3, 1), 19);
        Due.says("Promise 2", "- `place`: 0 to 6");
        ShelfSpines y = new ShelfSpines();
        Due.same("-1", y.add(0, 1, -1), Given.INVALID);
        Due.same("7", y.add(0, 1, 7), Given.INVALID);
        Due.same("0", y.add(0, 1, 0), 1);
        Due.same("6", y.add(1, 1, 6), 2);
        for (int far : FAR) {
            Due.same("letter " + far, y.add(far, 1, 2), Given.INVALID);
            Due.same("weight " + far, y.add(2, far, 2), Given.INVALID);
            Due.same("place " + far, y.add(2, 1, far), Given.INVALID);
        }
        Due.same("the word", Given.word(y), "a.....b");
    }

    private static void addAnswers() {
        Due.says("Promise 2", "Returns how many books there are then");
        ShelfSpines x = new ShelfSpines();
        for (int books = 1; books <= 5; books++) {
            Due.same("add", x.add(5 - books, 1, books), books);
        }
        x.remove(3);
        x.remove(1);
        Due.same("behind two removed ones", x.add(25, 1, 0), 4);
    }

    private static void addNotPossible() {
        Due.says("Promise 2", "NOT_POSSIBLE if a book has this letter, or stands at this place");
        ShelfSpines x = Given.shelf("a.....z");
        Due.same("the first letter", x.add(0, 1, 3), Given.IMPOSSIBLE);
        Due.same("the last letter", x.add(25, 1, 3), Given.IMPOSSIBLE);
        Due.same("the first place", x.add(1, 1, 0), Given.IMPOSSIBLE);
        Due.same("the last place", x.add(1, 1, 6), Given.IMPOSSIBLE);
        Due.same("both", x.add(0, 1, 0), Given.IMPOSSIBLE);
        Due.same("neither", x.add(1, 1, 1), 3);
    }

    private static void addLimit() {
        Due.says("Promise 2", "LIMIT_REACHED if there are 5.");
        ShelfSpines x = Given.shelf("abcd...");
        Due.same("4", x.add(24, 1, 5), 5);
        Due.same("5", x.add(25, 1, 6), Given.LIMIT);
        Due.same("the word", Given.word(x), "abcd.y.");
    }

    private static void addLoose() {
        Due.says("Promise 2", "Sets a book on the shelf, not stuck.");
        ShelfSpines x = Given.stuck(Given.shelf("a.c...."), 0, 2);
        x.add(1, 1, 1);
        Due.same("between stuck ones", x.at(1, 2), 0);
        x.remove(2);
        x.add(2, 1, 2);
        Due.same("one that was stuck", x.at(2, 2), 0);
        Due.same("the other one", x.at(0, 2), 1);
        Due.same("pull", x.pull(2), 13);
    }

    // ---- promise 3

    private static void remove() {
        Due.says("Promise 3", "- `place`: 0 to 6");
        ShelfSpines x = Given.shelf("a.m...z");
        Due.same("-1", x.remove(-1), Given.INVALID);
        Due.same("7", x.remove(7), Given.INVALID);
        for (int far : FAR) {
            Due.same("remove(" + far + ")", x.remove(far), Given.INVALID);
        }
        Due.says("Promise 3", "NOT_POSSIBLE if there is a gap.");
        Due.same("a gap", x.remove(1), Given.IMPOSSIBLE);
        Due.same("no books", new ShelfSpines().remove(0), Given.IMPOSSIBLE);
        Due.says("Promise 3", "Returns its letter");
        Due.same("z", x.remove(6), 25);
        Due.same("a", x.remove(0), 0);
        Due.same("the gap that it left", x.remove(0), Given.IMPOSSIBLE);
        Due.same("m", x.remove(2), 12);
        Due.same("the word", Given.word(x), ".......");
        for (int what = 0; what <= 14; what++) {
            Due.same("the last one is removed, count(" + what + ")", x.count(what), new ShelfSpines().count(what));
        }
    }

    private static void removeLeavesTheOthers() {
        Due.says("Promise 3", "Takes a book off the shelf.");
        for (int place = 0; place < 5; place++) {
            ShelfSpines x = Given.stuck(Given.shelf("eadbc..", "12345.."), 1, 2, 4);
            x.remove(place);
            for (int other = 0; other < 5; other++) {
                boolean gone = other == place;
                String at = "without " + place + ", at(" + other;
                Due.same(at + ", 0)", x.at(other, 0), gone ? Given.NOWHERE : "eadbc".charAt(other) - 'a');
                Due.same(at + ", 1)", x.at(other, 1), gone ? Given.NOWHERE : other + 1);
                Due.same(at + ", 2)", x.at(other, 2), gone ? Given.NOWHERE : "01101".charAt(other) - '0');
            }
            Due.same("books", x.count(0), 4);
        }
    }

    // ---- promise 4

    private static void stick() {
        Due.says("Promise 4", "- `place`: 0 to 6");
        ShelfSpines x = Given.shelf("b.....a");
        Due.same("-1", x.stick(-1), Given.INVALID);
        Due.same("7", x.stick(7), Given.INVALID);
        for (int far : FAR) {
            Due.same("stick(" + far + ")", x.stick(far), Given.INVALID);
        }
        Due.says("Promise 4", "NOT_POSSIBLE if there is a gap.");
        Due.same("a gap", x.stick(1), Given.IMPOSSIBLE);
        Due.same("no books", new ShelfSpines().stick(6), Given.IMPOSSIBLE);
        Due.says("Promise 4", "Makes a book stuck, or loose, if it is stuck.");
        ShelfSpines z = Given.shelf(".c.....");
        for (int turn = 1; turn <= 4; turn++) {
            z.stick(1);
            Due.same("turn " + turn, z.at(1, 2), turn % 2);
            Due.same("turn " + turn + ", pull", z.whyNot(1), turn % 2 == 1 ? 2 : 0);
        }
        Due.says("Promise 4", "Returns 1 if it is stuck then, otherwise 0");
        Due.same("b", x.stick(0), 1);
        Due.same("a", x.stick(6), 1);
        Due.same("both", x.count(1), 2);
        Due.same("b again", x.stick(0), 0);
        Due.same("a alone", x.at(0, 2) * 10 + x.at(6, 2), 1);
        Due.same("b once more", x.stick(0), 1);
        ShelfSpines y = Given.stuck(Given.shelf("abcde.."), 0, 1, 2, 3, 4);
        Due.same("all 5", y.count(1), 5);
        Due.same("none can be pulled", y.count(11), 1);
    }

    // ---- promise 7

    private static void set() {
        Due.says("Promise 7", "- `what`: 0 or 1");
        ShelfSpines x = new ShelfSpines();
        Due.same("-1", x.set(-1, 1), Given.INVALID);
        Due.same("2", x.set(2, 1), Given.INVALID);
        Due.says("Promise 7", "- `value`: 0 or 1");
        Due.same("FALLING, -1", x.set(0, -1), Given.INVALID);
        Due.same("FALLING, 2", x.set(0, 2), Given.INVALID);
        Due.same("CLOSED, -1", x.set(1, -1), Given.INVALID);
        Due.same("CLOSED, 2", x.set(1, 2), Given.INVALID);
        for (int far : FAR) {
            Due.same("what " + far, x.set(far, 0), Given.INVALID);
            Due.same("value " + far, x.set(0, far), Given.INVALID);
        }
        Due.same("neither is changed", x.count(12) + x.count(13), 0);
        Due.says("Promise 7", "Returns the value before");
        for (int what = 0; what < 2; what++) {
            Due.same("0 to 0", x.set(what, 0), 0);
            Due.same("0 to 1", x.set(what, 1), 0);
            Due.same("1 to 1", x.set(what, 1), 1);
            Due.same("1 to 0", x.set(what, 0), 1);
            Due.same("0 to 1 again", x.set(what, 1), 0);
            Due.same("the settings", x.count(12) * 10 + x.count(13), what == 0 ? 10 : 11);
        }
    }

    // ---- promise 13

    private static void atRanges() {
        Due.says("Promise 13", "- `place`: 0 to 6");
        ShelfSpines x = Given.shelf("a.....b");
        for (int what = 0; what < 6; what++) {
            Due.same("at(-1, " + what + ")", x.at(-1, what), Given.INVALID);
            Due.same("at(7, " + what + ")", x.at(7, what), Given.INVALID);
        }
        Due.same("at(0, 0)", x.at(0, 0), 0);
        Due.same("at(6, 0)", x.at(6, 0), 1);
        Due.says("Promise 13", "- `what`: 0:");
        for (int place = 0; place < 7; place++) {
            Due.same("at(" + place + ", -1)", x.at(place, -1), Given.INVALID);
            Due.same("at(" + place + ", 6)", x.at(place, 6), Given.INVALID);
        }
        for (int far : FAR) {
            Due.same("place " + far, x.at(far, 5), Given.INVALID);
            Due.same("what " + far, x.at(0, far), Given.INVALID);
        }
    }

    private static void atBook() {
        Due.says("Promise 13", "the letter of the book there, 0 to 25");
        ShelfSpines x = Given.shelf("z..am..", "9..15..");
        Due.same("a", x.at(3, 0), 0);
        Due.same("z", x.at(0, 0), 25);
        Due.says("Promise 13", "1: its weight");
        Due.same("1", x.at(3, 1), 1);
        Due.same("9", x.at(0, 1), 9);
        Due.same("5", x.at(4, 1), 5);
        Due.says("Promise 13", "2: 1 if it is stuck, otherwise 0");
        x.stick(4);
        Due.same("a", x.at(3, 2), 0);
        Due.same("m", x.at(4, 2), 1);
        Due.same("z", x.at(0, 2), 0);
        x.stick(4);
        Due.same("m, loose", x.at(4, 2), 0);
    }

    private static void atPulled() {
        Due.says("Promise 13", "3: the place to which a pull would bring it (refused or not)");
        ShelfSpines x = Given.shelf("abc.d..");
        int[] due = {3, 3, 3, Given.NOWHERE, 3, Given.NOWHERE, Given.NOWHERE};
        for (int turn = 0; turn < 2; turn++) {
            for (int place = 0; place < 7; place++) {
                Due.same((turn == 0 ? "loose" : "stuck") + ", at(" + place + ", 3)", x.at(place, 3), due[place]);
            }
            Given.stuck(x, 0, 1, 2, 4);
        }
        Due.same("the left rim", Given.shelf(".a.....").at(1, 3), 0);
        Due.same("the right rim", Given.shelf("..abcd.").at(5, 3), 6);
    }

    private static void atWrong() {
        Due.says("Promise 13", "4: with how many other books it stands the wrong way round");
        ShelfSpines x = Given.shelf("c.abe.d");
        int[] due = {2, Given.NOWHERE, 1, 1, 1, Given.NOWHERE, 1};
        int[] falling = {2, Given.NOWHERE, 3, 3, 3, Given.NOWHERE, 3};
        for (int place = 0; place < 7; place++) {
            Due.same("at(" + place + ", 4)", x.at(place, 4), due[place]);
        }
        x.set(ShelfSpines.FALLING, 1);
        for (int place = 0; place < 7; place++) {
            Due.same("falling, at(" + place + ", 4)", x.at(place, 4), falling[place]);
        }
        for (int place = 0; place < 5; place++) {
            Due.same("all others, " + place, Given.shelf("edcba..").at(place, 4), 4);
            Due.same("no others, " + place, Given.shelf("abcde..").at(place, 4), 0);
        }
        Due.same("one alone", Given.shelf("...a...").at(3, 4), 0);
    }

    private static void atGap() {
        Due.says("Promise 13", "NOT_FOUND for 0 to 4 if there is a gap");
        ShelfSpines x = Given.shelf(".a.bc..");
        for (int place : new int[] {0, 2, 5, 6}) {
            for (int what = 0; what < 5; what++) {
                Due.same("at(" + place + ", " + what + ")", x.at(place, what), Given.NOWHERE);
            }
        }
        Due.same("no books", new ShelfSpines().at(0, 3), Given.NOWHERE);
    }

    private static void atNearestGap() {
        Due.says("Promise 13", "5: the nearest gap, of two equally near ones the left one (the place itself, if it is a gap)");
        String[] words = {".......", "a......", "......a", "abcde..", "..abcde", ".abcde.", "ab.c.de", "a.bcd.e"};
        String[] due = {"0123456", "1123456", "0123455", "5555556", "0111111", "0000666", "2222444", "1111555"};
        for (int i = 0; i < words.length; i++) {
            ShelfSpines x = Given.shelf(words[i]);
            StringBuilder found = new StringBuilder();
            for (int place = 0; place < 7; place++) {
                found.append(x.at(place, 5));
            }
            Due.same(words[i], found.toString(), due[i]);
        }
    }

    // ---- promise 17

    private static void wordRanges() {
        Due.says("Promise 17", "INVALID_ARGUMENT (also if there is no such rank).");
        String[] shelves = {"", "a", "ab", "abc", "abcd", "abcde"};
        int[] words = {1, 7, 42, 210, 840, 2520};
        for (int books = 0; books < words.length; books++) {
            ShelfSpines x = Given.shelf(shelves[books]);
            Due.same(books + " books, rank -1", x.word(-1, 0), Given.INVALID);
            Due.same(books + " books, rank " + words[books], x.word(words[books], 6), Given.INVALID);
            Due.same(books + " books, the last rank", x.word(words[books] - 1, 0), books - 1 < 0 ? Given.NOWHERE : books - 1);
        }
        ShelfSpines x = Given.shelf("ab.....");
        for (int far : FAR) {
            Due.same("rank " + far, x.word(far, 0), Given.INVALID);
            Due.same("place " + far, x.word(0, far), Given.INVALID);
        }
        Due.says("Promise 17", "- `place`: 0 to 6");
        Due.same("-1", x.word(0, -1), Given.INVALID);
        Due.same("7", x.word(0, 7), Given.INVALID);
        Due.same("0", x.word(41, 0), 1);
        Due.same("6", x.word(0, 6), 1);
    }

    private static void wordSigns() {
        Due.says("Promise 17", "Returns the letter, 0 to 25, NOT_FOUND for \".\"");
        ShelfSpines x = Given.shelf("a.....z");
        Due.same("a", x.word(0, 5), 0);
        Due.same("z", x.word(0, 6), 25);
        for (int place = 0; place < 7; place++) {
            Due.same("the first word, " + place, x.word(0, place), place == 5 ? 0 : place == 6 ? 25 : Given.NOWHERE);
            Due.same("the last word, " + place, x.word(41, place), place == 0 ? 25 : place == 1 ? 0 : Given.NOWHERE);
            Due.same("no books, " + place, new ShelfSpines().word(0, place), Given.NOWHERE);
        }
    }

    // ---- promise 18

    private static void countRange() {
        Due.says("Promise 18", "Returns the number; INVALID_ARGUMENT.");
        ShelfSpines x = Given.shelf("a......");
        Due.same("-1", x.count(-1), Given.INVALID);
        Due.same("16", x.count(16), Given.INVALID);
        for (int far : FAR) {
            Due.same("count(" + far + ")", x.count(far), Given.INVALID);
        }
        Due.same("0", x.count(0), 1);
        Due.same("15", x.count(15), 1);
    }

    private static void countBooks() {
        Due.says("Promise 18", "0: books; 1: stuck ones; 2: the sum of all weights");
        ShelfSpines x = new ShelfSpines();
        for (int books = 1; books <= 5; books++) {
            x.add(26 - 5 * books, 9, books);
            x.stick(books);
            Due.same("books", x.count(0), books);
            Due.same("stuck ones", x.count(1), books);
            Due.same("weights", x.count(2), 9 * books);
        }
        x.stick(2);
        Due.same("one is loose", x.count(1), 4);
        x.remove(3);
        Due.same("one less", x.count(0) * 100 + x.count(1), 403);
        Due.same("weights", x.count(2), 36);
    }

    private static void countOrderAndRank() {
        Due.says("Promise 18", "3: 1 if the shelf is in order, otherwise 0; 4: the disorder; 5: the rank of the word of now;");
        String[] words = {".......", "a......", ".....ab", "ba.....", "..abcde", "edcba.."};
        int[] inOrder = {1, 1, 1, 0, 1, 0};
        int[] disorder = {0, 0, 0, 1, 0, 10};
        int[] rank = {0, 6, 0, 41, 0, 2519};
        for (int i = 0; i < words.length; i++) {
            ShelfSpines x = Given.shelf(words[i]);
            Due.same(words[i] + ": count(3)", x.count(3), inOrder[i]);
            Due.same(words[i] + ": count(4)", x.count(4), disorder[i]);
            Due.same(words[i] + ": count(5)", x.count(5), rank[i]);
        }
    }

    private static void countAccounts() {
        Due.says("Promise 18", "8: moves that were made so far; 9: what they cost; 10: moves that were refused so far;");
        ShelfSpines x = Given.shelf("ab.....", "19.....");
        int[] due = {0, 0, 0};
        for (int turn = 1; turn <= 20; turn++) {
            x.push(0, true);
            x.push(1, false);
            x.push(1, false);
            due[0] += 2;
            due[1] += 18;
            due[2] += 1;
            for (int what = 8; what <= 10; what++) {
                Due.same("turn " + turn + ", count(" + what + ")", x.count(what), due[what - 8]);
            }
        }
        x.remove(0);
        x.remove(1);
        Due.same("without books", x.count(8) * 10000 + x.count(9) * 10 + x.count(10), 403620);
    }

    private static void countWords() {
        Due.says("Promise 18", "6: how many words there are; 7: how many of them are in order");
        String[] shelves = {"", "a", "ba", "bac", "badc", "eadcb"};
        int[] words = {1, 7, 42, 210, 840, 2520};
        int[] inOrder = {1, 7, 21, 35, 35, 21};
        for (int books = 0; books < words.length; books++) {
            for (int falling = 0; falling < 2; falling++) {
                ShelfSpines x = Given.shelf(shelves[books]);
                x.set(ShelfSpines.FALLING, falling);
                Due.same("words of " + books, x.count(6), words[books]);
                Due.same("in order", x.count(7), inOrder[books]);
                x.set(ShelfSpines.CLOSED, 1);
                Due.same("closed, words of " + books, x.count(6), words[books]);
                Due.same("closed, in order", x.count(7), 1);
            }
        }
    }

    private static void countPossibleMoves() {
        Due.says("Promise 18", "11: moves that would not be refused now");
        Due.same("no books", new ShelfSpines().count(11), 0);
        Due.same("one book", Given.shelf("a......").count(11), 1);
        Due.same("one stuck book", Given.stuck(Given.shelf("a......"), 0).count(11), 0);
        Due.same("pushes both ways", Given.shelf("..ab...").count(11), 4);
        Due.same("stuck, pushes both ways", Given.stuck(Given.shelf("..ab..."), 2, 3).count(11), 2);
        Due.same("at the rim", Given.shelf("ab.....").count(11), 3);
        Due.same("five books", Given.shelf("ab.c.de").count(11), 5 + 2);
    }

    private static void countRest() {
        Due.says("Promise 18", "12 and 13: the settings 0 and 1; 14: the length of the pad; 15: states in the history");
        ShelfSpines x = new ShelfSpines();
        for (int states = 1; states <= 6; states++) {
            x.set(0, 1);
            Due.same("states", x.count(15), Math.min(states, 4));
        }
        Due.same("setting 0", x.count(12), 1);
        Due.same("setting 1", x.count(13), 0);
        x.set(1, 1);
        Due.same("setting 1", x.count(13), 1);
        for (int length = 1; length <= 62; length++) {
            x.append('!');
            Due.same("length", x.count(14), Math.min(length, 60));
        }
        x.clear();
        Due.same("length", x.count(14), 0);
    }

    public static void main(String[] args) {
        shelfOfGaps();
        addRanges();
        addAnswers();
        addNotPossible();
        addLimit();
        addLoose();
        remove();
        removeLeavesTheOthers();
        stick();
        set();
        atRanges();
        atBook();
        atPulled();
        atWrong();
        atGap();
        atNearestGap();
        wordRanges();
        wordSigns();
        countRange();
        countBooks();
        countOrderAndRank();
        countAccounts();
        countWords();
        countPossibleMoves();
        countRest();
        Due.end();
    }
}
