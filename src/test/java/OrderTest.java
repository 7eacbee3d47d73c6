/** The sentences of "Order" and of promises 19 to 22 and 24 that name a boundary case. */
public final class OrderTest {
    private static ShelfSpines shelf(String word, int falling, int closed) {
        ShelfSpines x = Given.shelf(word);
        x.set(ShelfSpines.FALLING, falling);
        x.set(ShelfSpines.CLOSED, closed);
        return x;
    }

    private static void inOrder(int falling, int closed, int due, String... words) {
        for (String word : words) {
            ShelfSpines x = shelf(word, falling, closed);
            Due.same(word + " with settings " + falling + ", " + closed, x.count(3), due);
            Due.same(word + " has no way to go", x.least(x.count(5), 0) == 0 ? 1 : 0, due);
        }
    }

    // ---- the section "Order"

    private static void rising() {
        Due.says("Order", "A shelf is in order, if the letters of its books rise from the left to the right");
        inOrder(0, 0, 1, "a......", "......z", "ab.....", "a.....b", ".y.z...", "abcde..", "..abcde", "a.bc.de");
        inOrder(0, 0, 0, "ba.....", "b.....a", ".....ba", "abced..", "bacde..", "edcba..", "a.c.b..");
    }

    private static void falling() {
        Due.says("Order", "(with the setting FALLING as 1: fall)");
        inOrder(1, 0, 1, "a......", "......a", "ba.....", "b.....a", "edcba..", "e.dc.ba");
        inOrder(1, 0, 0, "ab.....", "a.....b", "edcab..", "decba..", "abcde..", "c.a.b..");
    }

    private static void closed() {
        Due.says("Order", "and, with the setting CLOSED as 1, all gaps are to the right of all books.");
        inOrder(0, 1, 1, "a......", "ab.....", "abc....", "abcde..");
        inOrder(0, 1, 0, ".a.....", "......a", "a.b....", ".ab....", ".abcde.", "abcd.e.", "..abcde", "ba.....");
        inOrder(1, 1, 1, "a......", "ba.....", "edcba..");
        inOrder(1, 1, 0, ".a.....", "b.a....", ".edcba.", "ab.....");
    }

    private static void noBooks() {
        Due.says("Order", "A shelf without books is in order.");
        for (int settings = 0; settings < 4; settings++) {
            inOrder(settings & 1, settings >> 1, 1, ".......");
        }
        ShelfSpines x = Given.shelf(".a.....");
        x.set(ShelfSpines.CLOSED, 1);
        x.remove(1);
        Due.same("the last one is removed", x.count(3), 1);
    }

    private static void disorder() {
        Due.says("Order", "The disorder of a shelf is how many pairs of its books stand the wrong way round (a greater"
                + " letter to the left of a lesser one; with FALLING as 1 the other way).");
        String[] words = {".......", "a......", "......a", "ab.....", "ba.....", "b.....a", "abcde..", "edcba..", "e.dc.ba", "bacde..",
            "abced..", "ebcda..", "bcdea..", "z.a.m.."};
        int[] rising = {0, 0, 0, 0, 1, 1, 0, 10, 10, 1, 1, 7, 4, 2};
        int[] falling = {0, 0, 0, 1, 0, 0, 10, 0, 0, 9, 9, 3, 6, 1};
        for (int i = 0; i < words.length; i++) {
            Due.same(words[i], Given.shelf(words[i]).count(4), rising[i]);
            Due.same(words[i] + ", closed", shelf(words[i], 0, 1).count(4), rising[i]);
            Due.same(words[i] + ", falling", shelf(words[i], 1, 0).count(4), falling[i]);
        }
    }

    private static void fewestMoves() {
        Due.says("Order", "The fewest moves are the least number of moves, one after the other, none of which is refused,"
                + " behind which the shelf is in order");
        ShelfSpines x = Given.shelf("ba.....");
        int now = x.count(5);
        Due.same("b is pulled over a", x.least(now, 0), 1);
        // A stuck b cannot be pulled: both are pushed to the right rim, and a is pulled over b.
        Due.same("b is stuck", Given.stuck(x, 0).least(now, 0), 6);
        Due.same("in order", x.least(0, 0), 0);
        x.set(ShelfSpines.CLOSED, 1);
        Due.same("and pushed back to the left rim", x.least(now, 0), 10);
    }

    private static void leastCost() {
        Due.says("Order", "the least cost is the least sum of costs of such moves.");
        ShelfSpines x = Given.shelf("ba.....", "91.....");
        int now = x.count(5);
        Due.same("b is pulled over a", x.least(now, 1), 9);
        Due.same("b is stuck", Given.stuck(x, 0).least(now, 1), 5 * 9 + 1);
        // The fewest moves are pull 1, push 15, pull 0, pull 2 at a cost of 9 + 1 + 9 + 1; c is pulled just once by
        // pulls at 2, 3, 1, 0, 2.
        ShelfSpines y = Given.shelf(".cba...", ".911...");
        now = y.count(5);
        Due.same("the fewest moves", y.least(now, 0), 4);
        Due.same("the least cost is that of more moves", y.least(now, 1), 1 + 1 + 9 + 1 + 1);
        Due.same("told the other way", y.least(now, 2), 1 + 1 + 9 + 1 + 1);
    }

    private static void noSuchMoves() {
        Due.says("Order", "There may be none.");
        ShelfSpines x = Given.stuck(Given.shelf("ba....."), 0, 1);
        for (int what = 0; what < 3; what++) {
            Due.same("least(.., " + what + ")", x.least(x.count(5), what), Given.NOWHERE);
            Due.same("in order, least(.., " + what + ")", x.least(0, what), 0);
        }
        Due.same("plan", x.plan(false, 0), Given.NOWHERE);
        Due.same("plan", x.plan(true, 0), Given.NOWHERE);
        ShelfSpines y = Given.stuck(shelf("......a", 0, 1), 6);
        Due.same("one stuck book cannot be closed up", y.least(0, 0), Given.NOWHERE);
        Due.same("but where it stands closed", y.least(6, 0), 0);
    }

    /** The move of a plan as its sentence tells it, by looks at all moves. */
    private static int plannedMove(ShelfSpines x, boolean byCost) {
        int what = byCost ? 1 : 0;
        int ahead = x.least(x.count(5), what);
        for (int move = 0; move < 19 && ahead > 0; move++) {
            if (x.whyNot(move) == 0) {
                int behind = x.least(x.leads(move), what);
                if (behind >= 0 && behind + (byCost ? x.cost(move) : 1) == ahead) {
                    return move;
                }
            }
        }
        return Given.NOWHERE;
    }

    private static void plans(ShelfSpines x, boolean byCost, int... moves) {
        String word = Given.word(x);
        for (int step = 0; step < moves.length; step++) {
            Due.same(word + ", by cost " + byCost + ", step " + step, x.plan(byCost, step), moves[step]);
        }
        Due.same(word + ", by cost " + byCost + ", behind the last", x.plan(byCost, moves.length), Given.NOWHERE);
        for (int move : moves) {
            Due.same("as the sentence tells", plannedMove(x, byCost), move);
            Given.make(x, move);
        }
        Due.same("in order behind it", x.count(3), 1);
    }

    private static void planOfFewestMoves() {
        Due.says("Order", "The plan of the fewest moves: each move is the one with the least number by which the fewest"
                + " moves become 1 less.");
        // Pull 1 and push 14 make it 1 less.
        plans(Given.shelf(".cba...", ".911..."), false, 1, 15, 0, 2);
        // Pulls 2 and 3 and push 15 do.
        plans(Given.shelf("..cba.."), false, 2, 1, 16, 15, 0, 2);
        plans(Given.stuck(Given.shelf("ba....."), 0), false, 7, 8, 9, 10, 11, 6);
        plans(shelf("......a", 0, 1), false, 6, 5, 4, 3, 2, 1);
        plans(Given.shelf("ab....."), false);
    }

    private static void planOfLeastCost() {
        Due.says("Order", "The plan of the least cost: each move is the one with the least number by which its cost and"
                + " the least cost behind it together are the least cost ahead of it.");
        plans(Given.shelf(".cba...", ".911..."), true, 2, 3, 1, 0, 2);
        // Pull 1 and push 14 are equally good.
        plans(Given.shelf(".cba...", ".111..."), true, 1, 15, 0, 2);
        plans(Given.shelf("..cba..", "..595.."), true, 3, 4, 2, 3, 0, 2);
        plans(Given.stuck(Given.shelf("ba....."), 0), true, 7, 8, 9, 10, 11, 6);
        plans(Given.shelf("ab....."), true);
    }

    private static void plansOfFiveBooks() {
        Due.says("Promise 20", "Returns the number of the move");
        for (boolean byCost : new boolean[] {false, true}) {
            ShelfSpines x = Given.shelf("edcba..", "29153..");
            int due = x.least(x.count(5), byCost ? 1 : 0);
            int moves = 0;
            for (int move = x.plan(byCost, 0); move >= 0 && moves < 20; move = x.plan(byCost, 0)) {
                Due.same("by cost " + byCost + ", move " + moves, move, plannedMove(x, byCost));
                Given.make(x, move);
                moves++;
            }
            Due.same("by cost " + byCost + ", made", x.count(8), moves);
            Due.same("by cost " + byCost + ", as told", byCost ? x.count(9) : moves, due);
            Due.same("by cost " + byCost + ", in order behind it", x.count(3), 1);
        }
    }

    // ---- promise 19

    private static void leastRanges() {
        Due.says("Promise 19", "INVALID_ARGUMENT (also if there is no such rank)");
        String[] shelves = {"", "a", "ab", "abc", "abcd", "abcde"};
        int[] words = {1, 7, 42, 210, 840, 2520};
        for (int books = 0; books < words.length; books++) {
            ShelfSpines x = Given.shelf(shelves[books]);
            for (int what = 0; what < 3; what++) {
                Due.same(books + " books, least(-1, " + what + ")", x.least(-1, what), Given.INVALID);
                Due.same(books + " books, rank too great", x.least(words[books], what), Given.INVALID);
                Due.same(books + " books, the last rank", x.least(words[books] - 1, what) >= 0 ? 1 : 0, 1);
                Due.same(books + " books, the first rank", x.least(0, what), 0);
            }
        }
        ShelfSpines x = Given.shelf("ab.....");
        Due.same("the least rank", x.least(Given.MIN, 0), Given.INVALID);
        Due.same("the greatest rank", x.least(Given.MAX, 0), Given.INVALID);
        Due.says("Promise 19", "- `what`: 0: the fewest moves; 1: the least cost, told by the cheapest word that is not"
                + " settled yet, one after the other; 2: the least cost, told by words that become cheaper until none does");
        for (int wrong : new int[] {-1, 3, Given.MIN, Given.MAX}) {
            Due.same("least(0, " + wrong + ")", x.least(0, wrong), Given.INVALID);
        }
        Due.same("0", x.least(41, 0), 1);
        Due.same("1", x.least(41, 1), 2);
        Due.same("2", x.least(41, 2), 2);
    }

    private static void sameBothWays() {
        Due.says("Promise 19", "Returns the number (the same for 1 and 2)");
        ShelfSpines x = Given.stuck(Given.shelf("cab....", "528...."), 0, 1);
        int none = 0;
        for (int rank = 0; rank < 210; rank++) {
            int cost = x.least(rank, 1);
            Due.same("least(" + rank + ", ..)", x.least(rank, 2), cost);
            none += cost < 0 ? 1 : 0;
        }
        Due.same("none from some", none, 210 - x.all(0));
        ShelfSpines y = Given.stuck(Given.shelf("dbaec..", "91837.."), 1);
        for (int rank = 0; rank < 2520; rank += 17) {
            Due.same("5 books, least(" + rank + ", ..)", y.least(rank, 2), y.least(rank, 1));
        }
    }

    private static void leastOfNow() {
        Due.says("Promise 19", "(the books of now, stuck or not)");
        ShelfSpines x = Given.shelf("ba.....");
        int last = x.count(5);
        Due.same("b is loose", x.least(last, 0), 1);
        x.stick(0);
        Due.same("b is stuck", x.least(last, 0), 6);
        Due.same("b is stuck, the cost", x.least(last, 1), 11);
        x.stick(0);
        Due.same("b is loose again", x.least(last, 1), 2);
        x.remove(0);
        x.add(1, 9, 0);
        Due.same("another weight", x.least(last, 1), 9);
        Due.same("another weight, told the other way", x.least(last, 2), 9);
        x.set(ShelfSpines.FALLING, 1);
        Due.same("falling", x.least(last, 0), 0);
        x.undo();
        Due.same("undone", x.least(last, 0), 1);
        x.add(2, 1, 2);
        Due.same("a book more, the same rank", x.least(last, 0), Given.shelf("bac....").least(last, 0));
        x.remove(2);
        Due.same("a book less", x.least(last, 0), 1);
    }

    /** What can be told of all words, and of some of them. */
    private static String far(ShelfSpines x) {
        StringBuilder found = new StringBuilder(Given.word(x));
        for (int what = 0; what < 5; what++) {
            found.append(' ').append(x.all(what));
        }
        found.append(' ').append(x.mean()).append(' ').append(x.loosen());
        for (int what = 0; what < 3; what++) {
            found.append(' ').append(x.least(x.count(5), what)).append(' ').append(x.least(x.count(6) - 1, what));
        }
        return found.append(' ').append(x.plan(false, 0)).append(' ').append(x.plan(true, 0)).toString();
    }

    private static ShelfSpines some(String word, int books, int closed) {
        ShelfSpines x = new ShelfSpines();
        for (int book = 0; book < books; book++) {
            x.add(word.charAt(book) - 'a', 9 - book, book);
        }
        x.set(ShelfSpines.CLOSED, closed);
        return x;
    }

    private static void farOfNow() {
        Due.says("Words", "All words that the books of now can make");
        String word = "dbeca";
        ShelfSpines x = new ShelfSpines();
        for (int books = 1; books <= 5; books++) {
            x.add(word.charAt(books - 1) - 'a', 10 - books, books - 1);
            for (int closed = 0; closed < 2; closed++) {
                x.set(ShelfSpines.CLOSED, closed);
                Due.same("up to " + books + " books, closed " + closed, far(x), far(some(word, books, closed)));
            }
        }
        for (int books = 4; books >= 0; books--) {
            x.remove(books);
            Due.same("down to " + books + " books", far(x), far(some(word, books, 1)));
        }
    }

    private static void leastNotFound() {
        Due.says("Promise 19", "NOT_FOUND if there are no such moves.");
        ShelfSpines x = Given.stuck(Given.shelf("cab....", "528...."), 0, 1);
        for (int what = 0; what < 3; what++) {
            Due.same("least(.., " + what + ")", x.least(x.count(5), what), Given.NOWHERE);
        }
        Due.same("a way without one of them", Given.stuck(x, 0).least(x.count(5), 0), 1);
        Due.same("its cost", x.least(x.count(5), 1), 5);
    }

    // ---- promise 20

    private static void planByCost() {
        Due.says("Promise 20", "- `byCost`: whether of the least cost, otherwise of the fewest moves");
        ShelfSpines x = Given.shelf(".cba...", ".911...");
        Due.same("of the fewest moves", x.plan(false, 0), 1);
        Due.same("of the least cost", x.plan(true, 0), 2);
        Due.same("of the fewest moves, the last", x.plan(false, 3), 2);
        Due.same("of the fewest moves, not so many", x.plan(false, 4), Given.NOWHERE);
        Due.same("of the least cost, the last", x.plan(true, 4), 2);
        Due.same("of the least cost, not so many", x.plan(true, 5), Given.NOWHERE);
    }

    private static void planRange() {
        Due.says("Promise 20", "INVALID_ARGUMENT if step is below 0");
        ShelfSpines x = Given.shelf("ba.....");
        for (boolean byCost : new boolean[] {false, true}) {
            Due.same("-1", x.plan(byCost, -1), Given.INVALID);
            Due.same("the least", x.plan(byCost, Given.MIN), Given.INVALID);
            Due.same("0", x.plan(byCost, 0), 0);
        }
        Due.says("Promise 20", "NOT_FOUND if there are no such moves, or not so many.");
        ShelfSpines stuck = Given.stuck(Given.shelf("ba....."), 0, 1);
        for (boolean byCost : new boolean[] {false, true}) {
            Due.same("behind the last", x.plan(byCost, 1), Given.NOWHERE);
            Due.same("far behind the last", x.plan(byCost, 2600), Given.NOWHERE);
            Due.same("the greatest", x.plan(byCost, Given.MAX), Given.NOWHERE);
            Due.same("in order", Given.shelf("ab.....").plan(byCost, 0), Given.NOWHERE);
            Due.same("no books", new ShelfSpines().plan(byCost, 0), Given.NOWHERE);
            Due.same("no such moves", stuck.plan(byCost, 0), Given.NOWHERE);
            Due.same("no such moves", stuck.plan(byCost, 1), Given.NOWHERE);
        }
        Due.says("Promise 20", "- `step`: 0 for the first move, and so on");
        ShelfSpines y = Given.shelf("edcba..");
        int moves = y.least(y.count(5), 0);
        Due.same("the last move", y.plan(false, moves - 1) >= 0 ? 1 : 0, 1);
        Due.same("behind it", y.plan(false, moves), Given.NOWHERE);
    }

    // ---- promises 21 and 22

    private static void allRange() {
        Due.says("Promise 21", "Returns the number; INVALID_ARGUMENT.");
        ShelfSpines x = Given.shelf("ba.....");
        for (int wrong : new int[] {-1, 5, Given.MIN, Given.MAX}) {
            Due.same("all(" + wrong + ")", x.all(wrong), Given.INVALID);
        }
        Due.same("all(0)", x.all(0), 42);
        Due.same("all(4)", x.all(4), 42);
        for (int what = 0; what < 5; what++) {
            Due.same("no books, all(" + what + ")", new ShelfSpines().all(what), what == 0 || what == 4 ? 1 : 0);
        }
    }

    private static final String[] WORDS = {"......a", "b.....a", "b.....a", "b.....a", "b.....a", ".c...ab", ".ab..c."};
    private static final int[][] STUCK = {{}, {}, {0}, {6}, {0, 6}, {5}, {1, 2}};

    private static ShelfSpines shelfOf(int number, int settings) {
        return Given.stuck(shelf(WORDS[number], settings & 1, settings >> 1), STUCK[number]);
    }

    /** Asked word by word: how many words have a way, the greatest of what, the first rank with it, and the sum. */
    private static int[] told(ShelfSpines x, int what) {
        int[] found = new int[4];
        int words = x.count(6);
        found[1] = Given.NOWHERE;
        for (int rank = 0; rank < words; rank++) {
            int way = x.least(rank, what);
            found[0] += way >= 0 ? 1 : 0;
            found[2] = way > found[1] ? rank : found[2];
            found[1] = Math.max(found[1], way);
            found[3] += Math.max(way, 0);
        }
        return found;
    }

    private static void allOfThem() {
        Due.says("Promise 21", "0: from how many of them a shelf can be put in order; 1: the greatest least(.., 0) of these;"
                + " 2: the greatest least(.., 1) of these; 3: the lowest rank with that of 1");
        for (int settings = 0; settings < 4; settings++) {
            for (int i = 0; i < WORDS.length; i++) {
                ShelfSpines x = shelfOf(i, settings);
                int[] moves = told(x, 0);
                int[] costs = told(x, 1);
                String shelf = WORDS[i] + " with settings " + settings;
                Due.same(shelf + ": all(0)", x.all(0), moves[0]);
                Due.same(shelf + ": all(1)", x.all(1), moves[1]);
                Due.same(shelf + ": all(2)", x.all(2), costs[1]);
                Due.same(shelf + ": all(3)", x.all(3), moves[2]);
            }
        }
        ShelfSpines y = Given.stuck(Given.shelf("ba....."), 0, 1);
        Due.same("in order, or never", y.all(0), 21);
        Due.same("the greatest", y.all(1), 0);
        Due.same("the dearest", y.all(2), 0);
        Due.same("the lowest rank", y.all(3), 0);
        y.set(ShelfSpines.FALLING, 1);
        Due.same("the lowest rank, behind one from which it can never be put in order", y.all(3), 1);
        Due.same("five books, many greatest ones", Given.shelf("edcba..").all(3), 596);
    }

    private static void allThatCanBeReached() {
        Due.says("Promise 21", "4: how many of all words can be reached by moves from the word of now (with itself)");
        String[] words = {".......", "a......", "a......", "b.....a", "b.....a", "ba.....", "ba.....", "b.a...."};
        int[][] stuck = {{}, {}, {0}, {}, {0, 6}, {0}, {0, 1}, {0}};
        // One book alone goes but to its left, and from the left rim one place to the right.
        int[] due = {1, 2, 1, 42, 1, 32, 6, 32};
        for (int i = 0; i < words.length; i++) {
            ShelfSpines x = Given.stuck(Given.shelf(words[i]), stuck[i]);
            Due.same(words[i] + " with " + stuck[i].length + " stuck", x.all(4), due[i]);
            x.set(ShelfSpines.CLOSED, 1);
            Due.same(words[i] + ", in order or not", x.all(4), due[i]);
        }
        Due.same("one book alone at the right rim", Given.shelf("......a").all(4), 7);
        ShelfSpines y = Given.stuck(Given.shelf("acb...."), 1, 2);
        Due.same("not as many as can be put in order", y.all(4), 101);
        Due.same("but half of all", y.all(0), 105);
        y.stick(1);
        y.stick(2);
        Due.same("loose", y.all(4), 210);
    }

    private static void mean() {
        Due.says("Promise 22", "Returns the sum of least(.., 0) of all words from which a shelf can be put in order, as a"
                + " double, divided by how many these are.");
        for (int settings = 0; settings < 4; settings++) {
            for (int i = 0; i < WORDS.length; i++) {
                ShelfSpines x = shelfOf(i, settings);
                int[] moves = told(x, 0);
                Due.same(WORDS[i] + " with settings " + settings, x.mean(), (double) moves[3] / (double) moves[0]);
            }
        }
        Due.same("no books", new ShelfSpines().mean(), 0.0);
        Due.same("all in order", Given.shelf("a......").mean(), 0.0);
        Due.same("0 to 6", shelf("a......", 0, 1).mean(), 3.0);
        Due.same("0 to 5, the others never", Given.stuck(shelf("ba.....", 0, 1), 0, 1).mean(), 15.0 / 6.0);
        Due.same("one word alone", Given.stuck(shelf("......a", 0, 1), 6).mean(), 0.0);
        Due.same("five books", Given.shelf("abcde..").mean(), 4.639285714285714);
    }

    // ---- promise 24

    private static void loosen(String word, int due, int... places) {
        Due.same(word + " with " + places.length + " stuck: loosen", Given.stuck(Given.shelf(word), places).loosen(), due);
    }

    private static void loosenNone() {
        Due.says("Promise 24", "NOT_FOUND if no book is stuck.");
        loosen(".......", Given.NOWHERE);
        loosen("ba.....", Given.NOWHERE);
        loosen("abcde..", Given.NOWHERE);
        ShelfSpines x = Given.stuck(Given.shelf("ba....."), 0, 0);
        Due.same("stuck and loose again", x.loosen(), Given.NOWHERE);
        x.stick(1);
        x.remove(1);
        Due.same("stuck and gone", x.loosen(), Given.NOWHERE);
    }

    private static void loosenBest() {
        Due.says("Promise 24", "Returns the place of a stuck book, without which being stuck the fewest moves from the word"
                + " of now would be least");
        loosen("a......", 0, 0);
        loosen("......a", 6, 6);
        loosen("ba.....", 0, 0, 1);
        loosen(".....ba", 6, 5, 6);
        // Without c 3 moves, without b 2.
        loosen("cba....", 2, 1, 2);
        // Without c 5 moves, without b 1.
        loosen("acb....", 1, 0, 1);
        ShelfSpines x = Given.stuck(Given.shelf("ab....."), 0, 1);
        x.set(ShelfSpines.FALLING, 1);
        Due.same("falling", x.loosen(), 0);
        ShelfSpines y = Given.stuck(shelf("..a.b..", 0, 1), 4, 2);
        // a goes but to its left, never beside b.
        Due.same("closed", y.loosen(), 4);
    }

    private static void loosenNoWay() {
        Due.says("Promise 24", "(none counting as more than any)");
        // The first is of no use, the second and the third are.
        loosen("acb....", 1, 0, 1, 2);
        loosen("...acb.", 5, 3, 4, 5);
        // The first is of use, the second and the third are not.
        loosen("cab....", 0, 0, 1, 2);
        loosen("bac....", 0, 0, 1, 2);
    }

    private static void loosenLeftmost() {
        Due.says("Promise 24", "of several the leftmost one");
        loosen("ab.....", 0, 0, 1);
        loosen("ab.....", 0, 1, 0);
        loosen("......b", 6, 6);
        loosen("a.....b", 0, 6, 0);
        loosen("acb....", 0, 0, 2);
        // None is of use.
        loosen("cba....", 0, 0, 1, 2);
        loosen(".edcba.", 1, 1, 2, 3, 4, 5);
        loosen(".edcba.", 2, 2, 3, 4, 5);
    }

    private static void howFarChangesNothing() {
        Due.says("Changes and errors", "---- how far; nothing is changed.");
        ShelfSpines x = Given.type(Given.stuck(Given.shelf("c.ba..d"), 0, 2), "p0r2l4p6");
        String before = Given.seen(x);
        for (int what = 0; what < 5; what++) {
            x.least(5, what % 3);
            x.plan(what > 2, what);
            x.all(what);
            x.round(what % 4);
        }
        x.mean();
        x.loosen();
        Due.same("behind the looks", Given.seen(x), before);
        Due.same("still stuck", x.at(0, 2) + x.at(2, 2), 2);
    }

    public static void main(String[] args) {
        rising();
        falling();
        closed();
        noBooks();
        disorder();
        fewestMoves();
        leastCost();
        noSuchMoves();
        planOfFewestMoves();
        planOfLeastCost();
        leastRanges();
        sameBothWays();
        leastOfNow();
        farOfNow();
        leastNotFound();
        planByCost();
        planRange();
        plansOfFiveBooks();
        allRange();
        allOfThem();
        allThatCanBeReached();
        mean();
        loosenNone();
        loosenBest();
        loosenNoWay();
        loosenLeftmost();
        howFarChangesNothing();
        Due.end();
    }
}
