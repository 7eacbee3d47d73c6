/** The sentences of "What it is", "The shelf", "Words", "Accounts" and "Settings" that name a boundary case. */
public final class TermsTest {
    private static final String[] SHELVES = {"", "a", "ab", "abc", "abcd", "abcde"};

    private static void lastCall() {
        Due.says("What it is", "An object is used for at most 512 calls after it has been made");
        ShelfSpines x = new ShelfSpines();
        x.add(0, 9, 0);
        for (int call = 2; call <= 511; call++) {
            x.pull(call % 2 == 0 ? 0 : 1);
        }
        Due.same("call 512, count(9)", x.count(9), 510 * 9);
        ShelfSpines y = Given.shelf("edcba..");
        for (int call = 6; call <= 511; call += 2) {
            y.stick(0);
            y.all(2);
        }
        Due.same("call 512, all(2)", y.all(2), Given.stuck(Given.shelf("edcba.."), 0).all(2));
    }

    private static void sevenPlaces() {
        Due.says("The shelf", "The shelf has 7 places, numbered from 0, from the left to the right.");
        ShelfSpines x = new ShelfSpines();
        for (int wrong : new int[] {-1, 7, Given.MIN, Given.MAX}) {
            Due.same("add at " + wrong, x.add(0, 1, wrong), Given.INVALID);
            Due.same("at(" + wrong + ", 5)", x.at(wrong, 5), Given.INVALID);
        }
        Due.same("add at the left rim", x.add(0, 1, 0), 1);
        Due.same("add at the right rim", x.add(1, 1, 6), 2);
        Due.same("a at the left of b", x.count(3), 1);
        Due.same("b at the left of a", Given.shelf("b.....a").count(3), 0);
    }

    private static void bookOrGap() {
        Due.says("The shelf", "At each place stands a book, or there is a gap.");
        for (int place = 0; place < 7; place++) {
            ShelfSpines x = new ShelfSpines();
            x.add(0, 1, place);
            for (int other = 0; other < 7; other++) {
                Due.same("book at " + place + ", at(" + other + ", 0)", x.at(other, 0), other == place ? 0 : Given.NOWHERE);
            }
        }
    }

    private static void atMostFiveBooks() {
        Due.says("The shelf", "There are at most 5 books");
        ShelfSpines x = Given.shelf("abcd...");
        Due.same("the fifth", x.add(4, 1, 4), 5);
        Due.same("the sixth", x.add(5, 1, 5), Given.LIMIT);
        Due.same("books", x.count(0), 5);
        Due.same("the gap", x.at(5, 0), Given.NOWHERE);
        Due.same("one less", x.remove(0), 0);
        Due.same("the fifth again", x.add(5, 1, 5), 5);
    }

    private static void letters() {
        Due.says("The shelf", "each has a letter, a to z, unlike those of the others");
        ShelfSpines x = new ShelfSpines();
        Due.same("ahead of a", x.add(-1, 1, 0), Given.INVALID);
        Due.same("a", x.add(0, 1, 0), 1);
        Due.same("z", x.add(25, 1, 1), 2);
        Due.same("behind z", x.add(26, 1, 2), Given.INVALID);
        Due.same("a again", x.add(0, 2, 2), Given.IMPOSSIBLE);
        Due.same("z again", x.add(25, 2, 2), Given.IMPOSSIBLE);
        Due.same("y", x.add(24, 1, 2), 3);
        x.remove(0);
        Due.same("a, which is free", x.add(0, 2, 3), 3);
    }

    private static void weights() {
        Due.says("The shelf", "and a weight, 1 to 9");
        ShelfSpines x = new ShelfSpines();
        Due.same("0", x.add(0, 0, 0), Given.INVALID);
        Due.same("1", x.add(0, 1, 0), 1);
        Due.same("9", x.add(1, 9, 1), 2);
        Due.same("10", x.add(2, 10, 2), Given.INVALID);
        Due.same("9 again", x.add(3, 9, 3), 3);
        Due.same("sum", x.count(2), 1 + 9 + 9);
    }

    private static void looseAtFirst() {
        Due.says("The shelf", "and is stuck or not (at first it is not)");
        ShelfSpines x = Given.shelf("b.d....");
        Due.same("none", x.count(1), 0);
        Given.stuck(x, 0, 2);
        x.add(0, 1, 1);
        x.add(2, 1, 3);
        x.add(4, 1, 4);
        String stuck = "";
        for (int place = 0; place < 5; place++) {
            stuck += x.at(place, 2);
        }
        Due.same("b and d alone", stuck, "10100");
        Due.same("two", x.count(1), 2);
    }

    private static void signsFromTheLeft() {
        Due.says("Words", "The word of a shelf are 7 signs, from the left to the right:"
                + " the letter of the book that stands there, or \".\" for a gap.");
        for (String word : new String[] {".......", "z......", "......z", "a..mz.b", "edcba..", "..edcba"}) {
            ShelfSpines x = Given.shelf(word);
            Due.same("the word of now", Given.word(x, x.count(5)), word);
        }
    }

    private static void allWordsOfTheBooks() {
        Due.says("Words", "All words that the books of now can make, standing at any places");
        int[] words = {1, 7, 42, 210, 840, 2520};
        for (int books = 0; books < words.length; books++) {
            ShelfSpines x = Given.shelf(SHELVES[books]);
            Due.same("words of " + books, x.count(6), words[books]);
            Due.same("the last rank", x.least(words[books] - 1, 0) >= 0 ? 1 : 0, 1);
            Due.same("behind it", x.word(words[books], 0), Given.INVALID);
        }
        ShelfSpines y = Given.shelf("abcde");
        y.remove(2);
        Due.same("of now", y.count(6), 840);
        Due.same("of now", Given.word(y, 0), "...abde");
    }

    private static void gapsAheadOfLetters() {
        Due.says("Words", "are put in the order of a dictionary, \".\" ahead of all letters");
        String[] first = {".", "......a", ".....ab", "....abc", "...abcd", "..abcde"};
        String[] last = {".", "a......", "ba.....", "cba....", "dcba...", "edcba.."};
        for (int books = 1; books < first.length; books++) {
            ShelfSpines x = Given.shelf(SHELVES[books]);
            Due.same("the first of " + books, Given.word(x, 0), first[books]);
            Due.same("the last of " + books, Given.word(x, x.count(6) - 1), last[books]);
        }
        String before = "";
        for (int rank = 0; rank < 210; rank++) {
            String word = Given.word(Given.shelf("z.b.a.."), rank);
            Due.same(word + " behind " + before, word.compareTo(before) > 0 ? 1 : 0, 1);
            before = word;
        }
    }

    private static void ranksFromZero() {
        Due.says("Words", "the rank of a word is its place among them, from 0");
        Due.same("no books", new ShelfSpines().count(5), 0);
        for (int place = 0; place < 7; place++) {
            ShelfSpines x = new ShelfSpines();
            x.add(25, 1, place);
            Due.same("one book at " + place, x.count(5), 6 - place);
        }
        Due.same("first of two", Given.shelf(".....ab").count(5), 0);
        Due.same("last of two", Given.shelf("ba.....").count(5), 41);
        Due.same("first of five", Given.shelf("..abcde").count(5), 0);
        Due.same("second of five", Given.shelf("..abced").count(5), 1);
        Due.same("last of five", Given.shelf("edcba..").count(5), 2519);
        Due.same("the last with a gap at the left", Given.shelf(".edcba.").count(5), 6 * 5 * 4 * 3 * 2 - 1);
        Due.same("the first with a at the left", Given.shelf("a..bcde").count(5), 6 * 5 * 4 * 3 * 2);
    }

    private static String accounts(ShelfSpines x) {
        return x.count(8) + " made for " + x.count(9) + ", refused " + x.count(10);
    }

    private static void accounts() {
        Due.says("Accounts", "Moves that are made are counted, and what they cost, and moves that are refused.");
        ShelfSpines x = Given.shelf("ab....c", "28....9");
        Due.same("at first", accounts(x), "0 made for 0, refused 0");
        x.pull(6);
        Due.same("a pull", accounts(x), "1 made for 9, refused 0");
        x.push(0, true);
        Due.same("a push to the right", accounts(x), "2 made for 17, refused 0");
        x.push(1, false);
        Due.same("a push to the left", accounts(x), "3 made for 25, refused 0");
        x.pull(6);
        x.push(0, false);
        Due.same("reasons 1 and 4", accounts(x), "3 made for 25, refused 2");
        x.stick(0);
        x.pull(0);
        x.push(2, true);
        Due.same("reasons 2 and 3", accounts(x), "3 made for 25, refused 4");
        x.pull(7);
        x.push(6, true);
        Due.same("errors", accounts(x), "3 made for 25, refused 4");
        Given.type(x, "p1p0p1").run();
        Due.same("a program", accounts(x), "4 made for 33, refused 6");
        Given.type(x, "abc....").arrange();
        x.set(0, 1);
        x.set(0, 0);
        x.round(0);
        x.add(3, 9, 6);
        x.remove(6);
        Due.same("no moves", accounts(x), "4 made for 33, refused 6");
    }

    private static void settings() {
        Due.says("Settings", "FALLING (0 or 1; 0 at first), CLOSED (0 or 1; 0 at first).");
        ShelfSpines x = new ShelfSpines();
        Due.same("at first", x.count(12) * 10 + x.count(13), 0);
        for (int what = 0; what < 2; what++) {
            Due.same("2", x.set(what, 2), Given.INVALID);
            Due.same("-1", x.set(what, -1), Given.INVALID);
            Due.same("1", x.set(what, 1), 0);
            Due.same("0", x.set(what, 0), 1);
        }
        x.set(ShelfSpines.FALLING, 1);
        Due.same("FALLING alone", x.count(12) * 10 + x.count(13), 10);
        x.set(ShelfSpines.CLOSED, 1);
        x.set(ShelfSpines.FALLING, 0);
        Due.same("CLOSED alone", x.count(12) * 10 + x.count(13), 1);
    }

    public static void main(String[] args) {
        lastCall();
        sevenPlaces();
        bookOrGap();
        atMostFiveBooks();
        letters();
        weights();
        looseAtFirst();
        signsFromTheLeft();
        allWordsOfTheBooks();
        gapsAheadOfLetters();
        ranksFromZero();
        accounts();
        settings();
        Due.end();
    }
}
