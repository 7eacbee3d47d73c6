/** The sentences of "Moves" and of promises 5, 6, 14, 15 and 16 that name a boundary case. */
public final class MovesTest {
    private static final int MOVES = 19;

    /** The reasons of all moves, one sign for each; "-" for an error. */
    private static String reasons(ShelfSpines x) {
        StringBuilder found = new StringBuilder();
        for (int move = 0; move < MOVES; move++) {
            int reason = x.whyNot(move);
            found.append(reason < 0 ? "-" : String.valueOf(reason));
        }
        return found.toString();
    }

    // ---- the section "Moves"

    private static void numbersOfPulls() {
        Due.says("Moves", "A move has a number: 0 to 6 are the pulls at the places 0 to 6");
        for (int place = 0; place < 7; place++) {
            ShelfSpines x = new ShelfSpines();
            x.add(0, 1, place);
            for (int move = 0; move < 7; move++) {
                Due.same("book at " + place + ", whyNot(" + move + ")", x.whyNot(move), move == place ? 0 : 1);
            }
            int rank = x.leads(place);
            x.pull(place);
            Due.same("move " + place + " leads where the pull leads", x.count(5), rank);
        }
    }

    private static void numbersOfPushes() {
        Due.says("Moves", "7 to 12 the pushes to the right at the places 0 to 5; 13 to 18 the pushes to the left at the"
                + " places 0 to 5.");
        for (int place = 0; place < 6; place++) {
            ShelfSpines x = new ShelfSpines();
            x.add(0, 1, place);
            x.add(1, 1, place + 1);
            for (int move = 7; move < MOVES; move++) {
                int rim = move == 12 || move == 13 ? 4 : 0;
                int due = move == 7 + place || move == 13 + place ? rim : 3;
                Due.same("pair at " + place + ", whyNot(" + move + ")", x.whyNot(move), due);
            }
            for (int move = 7 + place; move < MOVES; move += 6) {
                int rank = x.leads(move);
                int reason = Given.make(x, move);
                Due.same("move " + move + " leads where the push leads", rank, reason == 0 ? x.count(5) : Given.IMPOSSIBLE);
                x.undo();
            }
        }
    }

    private static void nearestGap() {
        Due.says("Moves", "the book there is taken out, and put into the nearest gap (its own place is none)");
        String[] words = {"a......", "......a", "abcde..", "..abcde", "ab.cd.e", "abcd..e", "a..bcde", ".abc.de", "ab.cde."};
        int[] places = {0, 6, 0, 6, 6, 3, 0, 3, 5};
        int[] gaps = {1, 5, 5, 1, 5, 4, 1, 4, 6};
        for (int i = 0; i < words.length; i++) {
            String book = words[i].substring(places[i], places[i] + 1);
            ShelfSpines x = Given.shelf(words[i]);
            Due.same(words[i] + ": at(" + places[i] + ", 3)", x.at(places[i], 3), gaps[i]);
            Due.same(words[i] + ": pull(" + places[i] + ")", x.pull(places[i]), 10 + gaps[i]);
            Due.same(words[i] + ": the book left its place", Given.word(x).charAt(places[i]), '.');
            Due.same(words[i] + ": the book is there", Given.word(x).substring(gaps[i], gaps[i] + 1), book);
            Due.same(words[i] + ": no other moved", Given.word(x).replace('.', ' ').replace(book, "").replace(" ", ""),
                    words[i].replace(".", "").replace(book, ""));
        }
    }

    private static void leftOfTwoGaps() {
        Due.says("Moves", "of two equally near ones into the left one");
        String[] words = {".a.....", ".....a.", "..abc..", ".abcde.", "bc.a.de", "b.cad.e", "b.a.c.d"};
        int[] places = {1, 5, 3, 3, 3, 3, 2};
        int[] gaps = {0, 4, 1, 0, 2, 1, 1};
        for (int i = 0; i < words.length; i++) {
            Due.same(words[i] + ": pull(" + places[i] + ")", Given.shelf(words[i]).pull(places[i]), 10 + gaps[i]);
        }
    }

    private static void costOfPull() {
        Due.says("Moves", "Its cost is the weight of the book.");
        ShelfSpines x = Given.shelf("abcde..", "19195..");
        int[] weights = {1, 9, 1, 9, 5};
        for (int place = 0; place < 5; place++) {
            Due.same("cost(" + place + ")", x.cost(place), weights[place]);
        }
        x.pull(1);
        x.pull(0);
        Due.same("however far", x.count(9), 9 + 1);
    }

    private static void pullOfNoBook() {
        Due.says("Moves", "It is refused, if there is no book (reason 1)");
        Due.same("no books", reasons(new ShelfSpines()).substring(0, 7), "1111111");
        Due.same("gaps", reasons(Given.shelf("a.b.c.d")).substring(0, 7), "0101010");
        Due.same("the rims", reasons(Given.shelf(".abcde.")).substring(0, 7), "1000001");
    }

    private static void pullOfStuckBook() {
        Due.says("Moves", "or it is stuck (reason 2).");
        ShelfSpines x = Given.stuck(Given.shelf("ab...cd"), 0, 6);
        Due.same("the rims", reasons(x).substring(0, 7), "2011102");
        Due.same("pull", x.pull(0), 2);
        Due.same("it stays", Given.word(x), "ab...cd");
        x.stick(0);
        Due.same("loose again", x.pull(0), 12);
    }

    private static void pushToTheRight() {
        Due.says("Moves", "A push to the right at the place i: the books at the places i and i + 1 come to the places"
                + " i + 1 and i + 2.");
        String[] words = {"ba....c", ".ba...c", "..ba..c", "...ba.c", "c...ba."};
        String[] behind = {".ba...c", "..ba..c", "...ba.c", "....bac", "c....ba"};
        for (int place = 0; place < 5; place++) {
            ShelfSpines x = Given.shelf(words[place]);
            Due.same(words[place] + ": push", x.push(place, true), 0);
            Due.same(words[place] + ": behind it", Given.word(x), behind[place]);
        }
    }

    private static void pushToTheLeft() {
        Due.says("Moves", "A push to the left at the place i: the books at the places i and i + 1 come to the places"
                + " i - 1 and i.");
        String[] words = {".ba...c", "..ba..c", "c..ba..", "c...ba.", "c....ba"};
        String[] behind = {"ba....c", ".ba...c", "c.ba...", "c..ba..", "c...ba."};
        for (int place = 1; place < 6; place++) {
            ShelfSpines x = Given.shelf(words[place - 1]);
            Due.same(words[place - 1] + ": push", x.push(place, false), 0);
            Due.same(words[place - 1] + ": behind it", Given.word(x), behind[place - 1]);
        }
    }

    private static void costOfPush() {
        Due.says("Moves", "The cost of a push is the greater one of the two weights.");
        String[] weights = {"..19...", "..91...", "..55...", "..11...", "..89..."};
        int[] due = {9, 9, 5, 1, 9};
        for (int i = 0; i < weights.length; i++) {
            ShelfSpines x = Given.shelf("..ab...", weights[i]);
            Due.same(weights[i] + ": to the right", x.cost(9), due[i]);
            Due.same(weights[i] + ": to the left", x.cost(15), due[i]);
            x.push(2, true);
            Due.same(weights[i] + ": made", x.count(9), due[i]);
        }
    }

    private static void pushOfNoPair() {
        Due.says("Moves", "It is refused, if there is no book at one of the two places (reason 3)");
        Due.same("no books", reasons(new ShelfSpines()).substring(7), "333333333333");
        Due.same("no neighbours", reasons(Given.shelf("a.b.c.d")).substring(7), "333333333333");
        ShelfSpines x = Given.shelf("..a....");
        Due.same("the first is none, to the right", x.push(1, true), 3);
        Due.same("the first is none, to the left", x.push(1, false), 3);
        Due.same("the second is none, to the right", x.push(2, true), 3);
        Due.same("the second is none, to the left", x.push(2, false), 3);
        ShelfSpines y = Given.shelf("a.bcd.e");
        Due.same("the first is none, and a book stands where it would come to", y.push(1, true), 3);
        Due.same("the second is none, and a book stands where the first would come to", y.push(4, false), 3);
        Due.same("the second is none, and there is no place on the left", y.push(0, false), 3);
        Due.same("the first is none, and there is no place on the right", y.push(5, true), 3);
    }

    private static void pushOntoABook() {
        Due.says("Moves", "or no gap at the place to which the first of them is pushed (i + 2, or i - 1;");
        ShelfSpines x = Given.shelf("abcde..");
        Due.same("onto c", x.push(0, true), 4);
        Due.same("onto e", x.push(2, true), 4);
        Due.same("onto a", x.push(1, false), 4);
        Due.same("onto c", x.push(3, false), 4);
        Due.same("into the gap", x.push(3, true), 0);
        Due.same("into the gap that it left", x.push(1, true), 0);
        Due.same("back again", x.push(2, false), 0);
        Due.same("behind these", Given.word(x), "abc.de.");
    }

    private static void pushOverTheRim() {
        Due.says("Moves", "also if there is no such place: reason 4)");
        Due.same("no place on the right", Given.shelf(".....ab").push(5, true), 4);
        Due.same("no place on the left", Given.shelf("ab.....").push(0, false), 4);
        Due.same("none on both sides", reasons(Given.shelf("ab.c.de")).substring(7), "033334433330");
    }

    private static void stuckBooksArePushed() {
        Due.says("Moves", "Books that are stuck can be pushed.");
        int[][] stuck = {{2}, {3}, {2, 3}};
        for (int[] places : stuck) {
            ShelfSpines x = Given.stuck(Given.shelf("..ab..."), places);
            Due.same(places.length + " stuck, to the right", x.push(2, true), 0);
            Due.same(places.length + " stuck, to the left", x.push(3, false), 0);
            Due.same(places.length + " stuck, back again", Given.word(x), "..ab...");
            Due.same(places.length + " still stuck", x.count(1), places.length);
            Due.same("the first one in it", x.at(places[0], 2), 1);
        }
    }

    // ---- promise 5

    private static void pullAnswers() {
        Due.says("Promise 5", "Returns 10 and the place to which the book comes");
        String[] words = {".a.....", "a......", "ab.....", "abc....", "abcd...", "abcde..", "..abcde"};
        int[] from = {1, 0, 0, 0, 0, 0, 2};
        int[] due = {10, 11, 12, 13, 14, 15, 11};
        for (int i = 0; i < words.length; i++) {
            Due.same(words[i], Given.shelf(words[i]).pull(from[i]), due[i]);
        }
        Due.same(".abcde.", Given.shelf(".abcde.").pull(5), 16);
    }

    private static void pullRefused() {
        Due.says("Promise 5", "the reason, 1 or 2, if it is refused");
        ShelfSpines x = Given.stuck(Given.shelf(".a....."), 1);
        Due.same("a gap", x.pull(0), 1);
        Due.same("stuck", x.pull(1), 2);
        Due.same("counted", x.count(10), 2);
        Due.same("not made", x.count(8) + x.count(9), 0);
    }

    private static void pullOutOfRange() {
        Due.says("Promise 5", "- `place`: 0 to 6");
        ShelfSpines x = Given.shelf("a.....b");
        Due.same("-1", x.pull(-1), Given.INVALID);
        Due.same("7", x.pull(7), Given.INVALID);
        Due.same("the least", x.pull(Given.MIN), Given.INVALID);
        Due.same("the greatest", x.pull(Given.MAX), Given.INVALID);
        Due.same("not counted", x.count(10), 0);
        Due.same("0", x.pull(0), 11);
        Due.same("6", x.pull(6), 15);
    }

    // ---- promise 6

    private static void pushAnswers() {
        Due.says("Promise 6", "Returns 0; the reason, 3 or 4, if it is refused");
        ShelfSpines x = Given.shelf(".ab...c");
        Due.same("made", x.push(1, false), 0);
        Due.same("made", x.push(0, true), 0);
        Due.same("no pair", x.push(0, true), 3);
        Due.same("made, counted", x.count(8), 2);
        ShelfSpines y = Given.shelf("ab.....");
        Due.same("no place", y.push(0, false), 4);
        Due.same("refused, counted", y.count(10), 1);
        Due.same("refused, not made", y.count(8) + y.count(9), 0);
    }

    private static void pushOutOfRange() {
        Due.says("Promise 6", "- `place`: 0 to 5");
        for (boolean toRight : new boolean[] {false, true}) {
            ShelfSpines x = Given.shelf("ab...cd");
            Due.same("-1", x.push(-1, toRight), Given.INVALID);
            Due.same("6", x.push(6, toRight), Given.INVALID);
            Due.same("the least", x.push(Given.MIN, toRight), Given.INVALID);
            Due.same("the greatest", x.push(Given.MAX, toRight), Given.INVALID);
            Due.same("not counted", x.count(10), 0);
            Due.same("0", x.push(0, toRight), toRight ? 0 : 4);
            Due.same("5", x.push(5, toRight), toRight ? 4 : 0);
        }
    }

    private static void pushBothWays() {
        Due.says("Promise 6", "- `toRight`: whether to the right, otherwise to the left");
        ShelfSpines x = Given.shelf("..ab...");
        x.push(2, true);
        Due.same("true", Given.word(x), "...ab..");
        x.undo();
        x.push(2, false);
        Due.same("false", Given.word(x), ".ab....");
    }

    // ---- promises 14 to 16

    private static void whyNotAnswers() {
        Due.says("Promise 14", "Returns the reason; 0 if it would not be refused");
        ShelfSpines x = Given.stuck(Given.shelf("abc..d."), 1, 5);
        Due.same("all", reasons(x), "0201121" + "403333" + "443333");
        for (int move = 0; move < MOVES; move++) {
            int why = x.whyNot(move);
            int answer = Given.make(x, move);
            Due.same("as move " + move + " does", why, answer < 10 ? answer : 0);
            x.undo();
        }
    }

    private static void moveOutOfRange() {
        ShelfSpines x = Given.shelf("a.b.cde");
        int[] wrong = {-1, 19, Given.MIN, Given.MAX};
        Due.says("Promise 14", "- `move`: 0 to 18");
        for (int move : wrong) {
            Due.same("whyNot(" + move + ")", x.whyNot(move), Given.INVALID);
        }
        Due.same("whyNot(0)", x.whyNot(0), 0);
        Due.same("whyNot(18)", x.whyNot(18), 4);
        Due.says("Promise 15", "- `move`: 0 to 18");
        for (int move : wrong) {
            Due.same("cost(" + move + ")", x.cost(move), Given.INVALID);
        }
        Due.same("cost(0)", x.cost(0), 1);
        Due.same("cost(18)", Given.shelf(".....ab").cost(18), 2);
        Due.says("Promise 16", "- `move`: 0 to 18");
        for (int move : wrong) {
            Due.same("leads(" + move + ")", x.leads(move), Given.INVALID);
        }
        Due.same("leads(0)", Given.word(x, x.leads(0)), ".ab.cde");
        Due.same("leads(18)", Given.shelf(".....ab").leads(18), Given.shelf("....ab.").count(5));
    }

    private static void costAnswers() {
        Due.says("Promise 15", "Returns the cost; INVALID_ARGUMENT; NOT_POSSIBLE if it would be refused.");
        ShelfSpines x = Given.stuck(Given.shelf("abc..d.", "193..5."), 1, 5);
        int[] due = {1, -2, 3, -2, -2, -2, -2, -2, 9, -2, -2, -2, -2, -2, -2, -2, -2, -2, -2};
        for (int move = 0; move < MOVES; move++) {
            Due.same("cost(" + move + ")", x.cost(move), due[move]);
        }
    }

    private static void leadsAnswers() {
        Due.says("Promise 16", "Returns its rank; INVALID_ARGUMENT; NOT_POSSIBLE if it would be refused.");
        ShelfSpines x = Given.stuck(Given.shelf("abc..d."), 1, 5);
        for (int move = 0; move < MOVES; move++) {
            int rank = x.leads(move);
            boolean refused = x.whyNot(move) != 0;
            Given.make(x, move);
            Due.same("leads(" + move + ")", rank, refused ? Given.IMPOSSIBLE : x.count(5));
            x.undo();
        }
        Due.same("to the word of rank 0", Given.shelf(".....ba").leads(6), Given.shelf("....ab.").count(5));
        Due.same("to rank 0", Given.shelf(".....a.").leads(5), 2);
        Due.same("to rank 0", Given.shelf("....ab.").leads(11), 0);
        Due.same("to the last rank", Given.shelf(".ba....").leads(14), 41);
    }

    private static void looksMakeNoMove() {
        Due.says("Changes and errors", "---- looks; nothing is changed.");
        ShelfSpines x = Given.shelf("abc..d.");
        String before = Given.seen(x);
        for (int move = 0; move < MOVES; move++) {
            x.whyNot(move);
            x.cost(move);
            x.leads(move);
        }
        Due.same("behind the looks at moves", Given.seen(x), before);
    }

    public static void main(String[] args) {
        numbersOfPulls();
        numbersOfPushes();
        nearestGap();
        leftOfTwoGaps();
        costOfPull();
        pullOfNoBook();
        pullOfStuckBook();
        pushToTheRight();
        pushToTheLeft();
        costOfPush();
        pushOfNoPair();
        pushOntoABook();
        pushOverTheRim();
        stuckBooksArePushed();
        pullAnswers();
        pullRefused();
        pullOutOfRange();
        pushAnswers();
        pushOutOfRange();
        pushBothWays();
        whyNotAnswers();
        moveOutOfRange();
        costAnswers();
        leadsAnswers();
        looksMakeNoMove();
        Due.end();
    }
}
