/** Promise by promise: ordinary calls, the edges that the document names, and wrong arguments. */
public final class PromiseTest {
    private static final int INVALID = -1, IMPOSSIBLE = -2, LIMIT = -3, NOWHERE = -4;
    private static final int MAX = Integer.MAX_VALUE, MIN = Integer.MIN_VALUE;

    private static void due(String call, long got, long want) {
        Due.same(call, got, want);
    }

    /** A shelf with the books of the word; the weight of a is 1, of b 2, and so on, up to 9. */
    private static ShelfSpines shelf(String word) {
        ShelfSpines x = new ShelfSpines();
        for (int place = 0; place < word.length(); place++) {
            if (word.charAt(place) != '.') {
                int letter = word.charAt(place) - 'a';
                x.add(letter, Math.min(9, letter + 1), place);
            }
        }
        return x;
    }

    private static String word(ShelfSpines x) {
        StringBuilder found = new StringBuilder();
        for (int place = 0; place < 7; place++) {
            int letter = x.at(place, 0);
            found.append(letter == NOWHERE ? '.' : (char) ('a' + letter));
        }
        return found.toString();
    }

    private static ShelfSpines type(ShelfSpines x, String text) {
        x.clear();
        for (int i = 0; i < text.length(); i++) {
            x.append(text.charAt(i));
        }
        return x;
    }

    private static void newObject() {
        ShelfSpines x = new ShelfSpines();
        Due.same("1: word", word(x), ".......");
        int[] counts = {0, 0, 0, 1, 0, 0, 1, 1, 0, 0, 0, 0, 0, 0, 0, 0};
        for (int what = 0; what < counts.length; what++) {
            due("1: count(" + what + ")", x.count(what), counts[what]);
        }
        due("1: undo", x.undo(), IMPOSSIBLE);
        due("1: restore", x.restore(), IMPOSSIBLE);
        due("1: loosen", x.loosen(), NOWHERE);
        due("1: fault", x.fault(0), 0);
        due("1: least", x.least(0, 0), 0);
        due("1: least", x.least(1, 0), INVALID);
        due("1: all(0)", x.all(0), 1);
        due("1: all(1)", x.all(1), 0);
        due("1: all(4)", x.all(4), 1);
        Due.same("1: mean", x.mean(), 0.0);
    }

    private static void add() {
        ShelfSpines x = new ShelfSpines();
        int[][] wrong = {{-1, 1, 0}, {26, 1, 0}, {0, 0, 0}, {0, 10, 0}, {0, 1, -1}, {0, 1, 7}, {MAX, MAX, MAX}, {MIN, MIN, MIN}};
        for (int[] w : wrong) {
            due("2: add wrong", x.add(w[0], w[1], w[2]), INVALID);
        }
        due("2: no state", x.count(15), 0);
        due("2: add", x.add(25, 9, 6), 1);
        due("2: add", x.add(0, 1, 0), 2);
        due("2: same letter", x.add(25, 1, 3), IMPOSSIBLE);
        due("2: same place", x.add(3, 1, 6), IMPOSSIBLE);
        due("2: invalid first", x.add(25, 0, 6), INVALID);
        due("2: states", x.count(15), 2);
        due("2: letter", x.at(6, 0), 25);
        due("2: weight", x.at(6, 1), 9);
        due("2: not stuck", x.at(6, 2), 0);
        x.stick(0);
        x.stick(6);
        due("2: add between", x.add(12, 5, 3), 3);
        due("2: stays stuck", x.at(0, 2) + x.at(6, 2), 2);
        due("2: not stuck", x.at(3, 2), 0);
        due("2: add", x.add(13, 5, 4), 4);
        due("2: add", x.add(11, 5, 2), 5);
        Due.same("2: word", word(x), "a.lmn.z");
        due("2: limit", x.add(1, 1, 1), LIMIT);
        due("2: possible before limit", x.add(11, 1, 1), IMPOSSIBLE);
        due("2: possible before limit", x.add(1, 1, 0), IMPOSSIBLE);
        due("2: invalid before limit", x.add(1, 1, 7), INVALID);
        due("2: weights", x.count(2), 25);
    }

    private static void remove() {
        ShelfSpines x = shelf("c.a.b..");
        due("3: wrong", x.remove(-1), INVALID);
        due("3: wrong", x.remove(7), INVALID);
        due("3: gap", x.remove(1), IMPOSSIBLE);
        x.stick(0);
        x.stick(2);
        due("3: remove", x.remove(2), 0);
        due("3: books", x.count(0), 2);
        due("3: stuck", x.count(1), 1);
        due("3: stays stuck", x.at(0, 2), 1);
        due("3: stays loose", x.at(4, 2), 0);
        due("3: weights", x.at(0, 1) * 10 + x.at(4, 1), 32);
        due("3: gone", x.remove(2), IMPOSSIBLE);
        due("3: again", x.add(0, 7, 2), 3);
        due("3: comes back loose", x.at(2, 2), 0);
    }

    private static void stick() {
        ShelfSpines x = shelf("ba.....");
        due("4: wrong", x.stick(-1), INVALID);
        due("4: wrong", x.stick(7), INVALID);
        due("4: gap", x.stick(2), IMPOSSIBLE);
        due("4: stick", x.stick(0), 1);
        due("4: stuck", x.at(0, 2), 1);
        due("4: other", x.at(1, 2), 0);
        due("4: loose", x.stick(0), 0);
        due("4: loose", x.at(0, 2), 0);
        due("4: stick", x.stick(1), 1);
        due("4: pushed", x.push(0, true), 0);
        due("4: goes along", x.at(2, 2), 1);
        due("4: not the other", x.at(1, 2), 0);
        due("4: pull", x.pull(2), 2);
        due("4: states", x.count(15), 4);
    }

    private static void pull() {
        ShelfSpines x = shelf("ab.c...");
        due("5: wrong", x.pull(-1), INVALID);
        due("5: wrong", x.pull(7), INVALID);
        due("5: wrong", x.pull(MIN), INVALID);
        due("5: not counted", x.count(10), 0);
        due("5: nothing there", x.pull(2), 1);
        due("5: refused", x.count(10), 1);
        due("5: left one of two", x.pull(3), 12);
        Due.same("5: word", word(x), "abc....");
        due("5: far", x.pull(0), 13);
        Due.same("5: word", word(x), ".bca...");
        due("5: cost", x.count(9), 3 + 1);
        due("5: made", x.count(8), 2);
        x.stick(1);
        due("5: stuck", x.pull(1), 2);
        due("5: refused", x.count(10), 2);
        Due.same("5: word", word(x), ".bca...");
        ShelfSpines y = shelf("......a");
        due("5: rim", y.pull(6), 15);
        due("5: back", y.pull(5), 14);
        ShelfSpines z = shelf("a......");
        due("5: own place is none", z.pull(0), 11);
    }

    private static void push() {
        ShelfSpines x = shelf("ba.....");
        due("6: wrong", x.push(-1, true), INVALID);
        due("6: wrong", x.push(6, true), INVALID);
        due("6: wrong", x.push(6, false), INVALID);
        due("6: over the rim", x.push(0, false), 4);
        due("6: no pair", x.push(1, true), 3);
        due("6: no pair, no place", x.push(5, true), 3);
        due("6: right", x.push(0, true), 0);
        Due.same("6: word", word(x), ".ba....");
        due("6: left", x.push(1, false), 0);
        Due.same("6: word", word(x), "ba.....");
        due("6: greater weight", x.count(9), 4);
        due("6: refused", x.count(10), 3);
        due("6: made", x.count(8), 2);
        ShelfSpines y = shelf("abc..de");
        due("6: no gap", y.push(0, true), 4);
        due("6: over the rim", y.push(5, true), 4);
        due("6: right", y.push(1, true), 0);
        Due.same("6: word", word(y), "a.bc.de");
        due("6: left", y.push(5, false), 0);
        Due.same("6: word", word(y), "a.bcde.");
        due("6: no gap on the left", y.push(3, false), 4);
        due("6: cost", y.count(9), 3 + 5);
    }

    private static void set() {
        ShelfSpines x = shelf("a.b....");
        due("7: wrong", x.set(-1, 0), INVALID);
        due("7: wrong", x.set(2, 0), INVALID);
        due("7: wrong", x.set(0, -1), INVALID);
        due("7: wrong", x.set(1, 2), INVALID);
        due("7: rises", x.count(3), 1);
        due("7: falling", x.set(ShelfSpines.FALLING, 1), 0);
        due("7: does not fall", x.count(3), 0);
        due("7: falling", x.set(0, 1), 1);
        due("7: no change is one", x.count(15), 4);
        due("7: rising", x.set(0, 0), 1);
        due("7: closed", x.set(ShelfSpines.CLOSED, 1), 0);
        due("7: not closed", x.count(3), 0);
        due("7: settings", x.count(12) * 10 + x.count(13), 1);
        due("7: open", x.set(1, 0), 1);
        due("7: in order", x.count(3), 1);
    }

    private static void appendAndClear() {
        ShelfSpines x = new ShelfSpines();
        due("8: wrong", x.append(32), INVALID);
        due("8: wrong", x.append(127), INVALID);
        due("8: wrong", x.append(MIN), INVALID);
        due("8: low", x.append(33), 1);
        due("8: high", x.append(126), 2);
        for (int length = 3; length <= 60; length++) {
            due("8: append", x.append('p'), length);
        }
        due("8: limit", x.append('p'), LIMIT);
        due("8: invalid before limit", x.append(32), INVALID);
        due("8: length", x.count(14), 60);
        due("8: no change", x.count(15), 0);
        due("9: clear", x.clear(), 60);
        due("9: clear", x.clear(), 0);
        due("9: length", x.count(14), 0);
        due("9: no change", x.count(15), 0);
    }

    private static void fault() {
        ShelfSpines x = shelf("z....y.");
        due("10: wrong", x.fault(-1), INVALID);
        due("10: wrong", x.fault(2), INVALID);
        String[] programs = {"", "p", "p0", "p6", "p7", "p/", "r5", "r6", "l5", "l6", "l/", "r0l0p", "r0q0", "pp", "P0", "0p"};
        int[] programFaults = {0, 1, -4, -4, 1, 1, -4, 1, -4, 1, 1, 5, 2, 1, 0, 0};
        for (int i = 0; i < programs.length; i++) {
            due("10: fault(0) of " + programs[i], type(x, programs[i]).fault(0), programFaults[i]);
        }
        String[] words = {"", "z", "zy", "zy.....", ".....zy", "......", "z..y..z", "zz", "a", ".....a", "zy......", "zy....a", "Z", "z.y...-"};
        int[] wordFaults = {0, 1, 2, -4, -4, 5, 6, 1, 0, 5, 7, 6, 0, 6};
        for (int i = 0; i < words.length; i++) {
            due("10: fault(1) of " + words[i], type(x, words[i]).fault(1), wordFaults[i]);
        }
        ShelfSpines full = type(new ShelfSpines(), "p0".repeat(30));
        due("10: full", full.fault(0), NOWHERE);
        due("10: no word", full.fault(1), 0);
        due("10: gaps alone", type(full, ".......").fault(1), NOWHERE);
        due("10: too many", type(full, "........").fault(1), 7);
    }

    private static void arrange() {
        ShelfSpines x = shelf("ba.....");
        x.stick(0);
        due("11: empty", x.arrange(), IMPOSSIBLE);
        due("11: fault", type(x, "a.....").arrange(), IMPOSSIBLE);
        due("11: pad stays", x.count(14), 6);
        due("11: no change", x.count(15), 3);
        due("11: arrange", type(x, "a....b.").arrange(), 31);
        Due.same("11: word", word(x), "a....b.");
        due("11: rank", x.count(5), 31);
        due("11: pad", x.count(14), 0);
        due("11: not counted", x.count(8) + x.count(9) + x.count(10), 0);
        due("11: stays stuck", x.at(5, 2), 1);
        due("11: weight", x.at(5, 1), 2);
        due("11: a change", x.count(15), 4);
        x.undo();
        Due.same("11: undone", word(x), "ba.....");
        due("11: pad is not undone", x.count(14), 0);
    }

    private static void run() {
        ShelfSpines x = shelf("ba.....");
        x.stick(0);
        due("12: empty", x.run(), IMPOSSIBLE);
        due("12: fault", type(x, "p").run(), IMPOSSIBLE);
        due("12: no change", x.count(15), 3);
        due("12: run", type(x, "p0r0p1p2l0").run(), 2);
        Due.same("12: word", word(x), ".b.a...");
        due("12: made", x.count(8), 2);
        due("12: cost", x.count(9), 2 + 1);
        due("12: refused", x.count(10), 3);
        due("12: pad stays", x.count(14), 10);
        due("12: one change", x.count(15), 4);
        x.undo();
        Due.same("12: undone", word(x), "ba.....");
        due("12: undone", x.count(8) + x.count(9) + x.count(10), 0);
        due("12: none is made", type(x, "p6").run(), 0);
        due("12: is a change", x.count(15), 4);
    }

    private static void at() {
        ShelfSpines x = shelf("d.ab..c");
        x.stick(3);
        int[][] want = {
            {3, 4, 0, 1, 3, 1}, {-4, -4, -4, -4, -4, 1}, {0, 1, 0, 1, 1, 1}, {1, 2, 1, 4, 1, 4},
            {-4, -4, -4, -4, -4, 4}, {-4, -4, -4, -4, -4, 5}, {2, 3, 0, 5, 1, 5},
        };
        for (int place = 0; place < 7; place++) {
            for (int what = 0; what < 6; what++) {
                due("13: at(" + place + ", " + what + ")", x.at(place, what), want[place][what]);
            }
        }
        due("13: wrong", x.at(-1, 0), INVALID);
        due("13: wrong", x.at(7, 0), INVALID);
        due("13: wrong", x.at(1, -1), INVALID);
        due("13: wrong", x.at(1, 6), INVALID);
        x.set(0, 1);
        due("13: falling", x.at(0, 4), 0);
        due("13: falling", x.at(3, 4), 2);
    }

    private static void looksAtMoves() {
        ShelfSpines x = shelf("ab.c..d");
        x.stick(1);
        int[] reasons = {0, 2, 1, 0, 1, 1, 0, 0, 3, 3, 3, 3, 3, 4, 3, 3, 3, 3, 3};
        int[] costs = {1, -2, -2, 3, -2, -2, 4, 2, -2, -2, -2, -2, -2, -2, -2, -2, -2, -2, -2};
        for (int move = 0; move < 19; move++) {
            due("14: whyNot(" + move + ")", x.whyNot(move), reasons[move]);
            due("15: cost(" + move + ")", x.cost(move), costs[move]);
            due("16: leads(" + move + ")", x.leads(move) == IMPOSSIBLE ? 1 : 0, reasons[move] == 0 ? 0 : 1);
        }
        int there = x.leads(7);
        Due.same("16: looks change nothing", word(x), "ab.c..d");
        due("16: looks are not counted", x.count(8) + x.count(10), 0);
        x.push(0, true);
        due("16: leads where the move leads", x.count(5), there);
        for (int wrong : new int[] {-1, 19, MAX, MIN}) {
            due("14: wrong", x.whyNot(wrong), INVALID);
            due("15: wrong", x.cost(wrong), INVALID);
            due("16: wrong", x.leads(wrong), INVALID);
        }
        ShelfSpines y = shelf(".....ab");
        due("14: right over the rim", y.whyNot(12), 4);
        due("14: left", y.whyNot(18), 0);
        due("15: left", y.cost(18), 2);
        due("16: left", y.leads(18), 3);
        due("16: pull", y.leads(6), 5);
    }

    private static void words() {
        ShelfSpines x = shelf("b.....y");
        String[] first = {".....by", ".....yb", "....b.y", "....by.", "....y.b", "....yb."};
        for (int rank = 0; rank < first.length; rank++) {
            for (int place = 0; place < 7; place++) {
                char sign = first[rank].charAt(place);
                due("17: word(" + rank + ", " + place + ")", x.word(rank, place), sign == '.' ? NOWHERE : sign - 'a');
            }
        }
        due("17: last", x.word(41, 0), 24);
        due("17: last", x.word(41, 1), 1);
        due("17: wrong", x.word(-1, 0), INVALID);
        due("17: wrong", x.word(42, 0), INVALID);
        due("17: wrong", x.word(MAX, 0), INVALID);
        due("17: wrong", x.word(0, -1), INVALID);
        due("17: wrong", x.word(0, 7), INVALID);
        ShelfSpines y = shelf("edcba..");
        for (int rank = 0; rank < 2520; rank += 7) {
            StringBuilder text = new StringBuilder();
            for (int place = 0; place < 7; place++) {
                int letter = y.word(rank, place);
                text.append(letter == NOWHERE ? '.' : (char) ('a' + letter));
            }
            due("17: back again", type(y, text.toString()).arrange(), rank);
            if (rank % 490 == 0) {
                y = shelf("edcba..");
            }
        }
    }

    private static void counts() {
        ShelfSpines x = shelf("c.ba...");
        x.stick(0);
        x.pull(0);
        x.pull(3);
        type(x, "p0r");
        Due.same("18: word", word(x), "c.b.a..");
        int[] want = {3, 1, 6, 0, 3, 0, 210, 35, 1, 1, 1, 2, 0, 0, 3, 4};
        for (int what = 0; what < want.length; what++) {
            if (what != 5) {
                due("18: count(" + what + ")", x.count(what), want[what]);
            }
        }
        for (int place = 0; place < 7; place++) {
            due("18: the rank is that of the word", x.word(x.count(5), place), x.at(place, 0));
        }
        x.set(1, 1);
        due("18: closed words", x.count(7), 1);
        x.set(0, 1);
        due("18: setting", x.count(12), 1);
        due("18: setting", x.count(13), 1);
        due("18: wrong", x.count(-1), INVALID);
        due("18: wrong", x.count(16), INVALID);
        due("18: wrong", x.count(MAX), INVALID);
        int[] words = {1, 7, 42, 210, 840, 2520};
        int[] risen = {1, 7, 21, 35, 35, 21};
        String[] shelves = {"", "a", "ab", "abc", "abcd", "abcde"};
        for (int books = 0; books <= 5; books++) {
            ShelfSpines y = shelf(shelves[books]);
            due("18: words of " + books, y.count(6), words[books]);
            due("18: of them in order", y.count(7), risen[books]);
            due("18: in order", y.count(3), 1);
            y.set(0, 1);
            due("18: falling", y.count(3), books < 2 ? 1 : 0);
            due("18: falling disorder", y.count(4), books * (books - 1) / 2);
            y.set(1, 1);
            due("18: closed", y.count(7), 1);
        }
        due("18: possible moves", shelf("ab.....").count(11), 3);
        due("18: possible moves", shelf("..ab...").count(11), 4);
    }

    private static void least() {
        ShelfSpines x = shelf("ba.....");
        due("19: wrong", x.least(-1, 0), INVALID);
        due("19: wrong", x.least(42, 0), INVALID);
        due("19: wrong", x.least(0, -1), INVALID);
        due("19: wrong", x.least(0, 3), INVALID);
        int rank = x.count(5);
        due("19: fewest", x.least(rank, 0), 1);
        due("19: cost", x.least(rank, 1), 2);
        due("19: cost", x.least(rank, 2), 2);
        x.stick(0);
        // Both must be pushed to the right rim, where a is pulled over b.
        due("19: b is stuck", x.least(rank, 0), 6);
        due("19: b is stuck", x.least(rank, 1), 5 * 2 + 1);
        due("19: b is stuck", x.least(rank, 2), 5 * 2 + 1);
        x.stick(1);
        for (int what = 0; what < 3; what++) {
            due("19: none", x.least(rank, what), NOWHERE);
            due("19: in order", x.least(0, what), 0);
        }
        x.set(0, 1);
        due("19: falling", x.least(rank, 0), 0);
        due("19: falling", x.least(0, 0), NOWHERE);
        ShelfSpines y = shelf("..a....");
        y.set(1, 1);
        due("19: closed", y.least(4, 0), 2);
        due("19: closed", y.least(6, 0), 0);
        ShelfSpines z = new ShelfSpines();
        z.add(1, 9, 0);
        z.add(0, 1, 1);
        z.stick(0);
        due("19: weights", z.least(z.count(5), 1), 5 * 9 + 1);
        due("19: weights", z.least(z.count(5), 2), 5 * 9 + 1);
    }

    private static void plan() {
        ShelfSpines x = shelf("ba.....");
        due("20: wrong", x.plan(false, -1), INVALID);
        due("20: wrong", x.plan(true, MIN), INVALID);
        due("20: pull b over a", x.plan(false, 0), 0);
        due("20: not so many", x.plan(false, 1), NOWHERE);
        due("20: not so many", x.plan(false, MAX), NOWHERE);
        due("20: by cost", x.plan(true, 0), 0);
        due("20: not so many", x.plan(true, 1), NOWHERE);
        x.stick(0);
        int[] moves = {7, 8, 9, 10, 11, 6, NOWHERE, NOWHERE};
        for (int step = 0; step < moves.length; step++) {
            due("20: to the right rim, by moves", x.plan(false, step), moves[step]);
            due("20: to the right rim, by cost", x.plan(true, step), moves[step]);
        }
        x.stick(1);
        due("20: none", x.plan(false, 0), NOWHERE);
        due("20: none", x.plan(true, 0), NOWHERE);
        due("20: in order", shelf("ab.....").plan(false, 0), NOWHERE);
        ShelfSpines y = shelf("edcba..");
        for (int kind = 0; kind < 2; kind++) {
            y.save();
            int made = y.count(8);
            int spent = y.count(9);
            int way = y.least(y.count(5), kind);
            int steps = 0;
            for (int move = y.plan(kind == 1, 0); move >= 0 && steps < 50; move = y.plan(kind == 1, 0)) {
                due("20: goes", y.whyNot(move), 0);
                due("20: one after the other", steps, y.count(8) - made);
                if (move < 7) {
                    y.pull(move);
                } else {
                    y.push((move - 7) % 6, move < 13);
                }
                steps++;
            }
            due("20: in order behind it", y.count(3), 1);
            due("20: as told", kind == 0 ? steps : y.count(9) - spent, way);
            y.restore();
        }
    }

    private static void all() {
        ShelfSpines x = shelf("ba.....");
        due("21: wrong", x.all(-1), INVALID);
        due("21: wrong", x.all(5), INVALID);
        due("21: from all", x.all(0), 42);
        due("21: reached", x.all(4), 42);
        x.stick(0);
        x.stick(1);
        due("21: half of them", x.all(0), 21);
        due("21: in order", x.all(1), 0);
        due("21: in order", x.all(2), 0);
        due("21: the first", x.all(3), 0);
        due("21: pushed alone", x.all(4), 6);
        x.set(1, 1);
        due("21: closed", x.all(0), 6);
        due("21: closed", x.all(1), 5);
        due("21: closed", x.all(2), 10);
        due("21: closed", x.all(3), 0);
        ShelfSpines y = shelf("a......");
        y.set(1, 1);
        y.set(0, 1);
        due("21: the worst", y.all(1) * 100 + y.all(2) * 10 + y.all(3), 660);
    }

    private static void mean() {
        ShelfSpines x = shelf("a......");
        Due.same("22: in order all", x.mean(), 0.0);
        x.set(1, 1);
        Due.same("22: 0 to 6", x.mean(), 3.0);
        x.stick(0);
        Due.same("22: one alone", x.mean(), 0.0);
        ShelfSpines y = shelf("ba.....");
        y.stick(0);
        y.stick(1);
        y.set(1, 1);
        Due.same("22: 0 to 5", y.mean(), 2.5);
        Due.same("22: five books", shelf("edcba..").mean(), 4.639285714285714);
    }

    private static void round() {
        ShelfSpines x = shelf("..a....");
        due("23: wrong", x.round(-1), INVALID);
        due("23: wrong", x.round(4), INVALID);
        due("23: empty", x.round(0), IMPOSSIBLE);
        type(x, "p2p");
        due("23: fault", x.round(3), IMPOSSIBLE);
        due("23: invalid first", x.round(4), INVALID);
        type(x, "p2");
        int[] rest = {1, 1, 0, 0};
        // "cab....", then "ab.c..." and "ba.c..." by turns.
        ShelfSpines y = type(shelf("cab...."), "p0l1");
        int[] turns = {1, 2, 1 + 2 + 2 + 2, 0};
        for (int what = 0; what < 4; what++) {
            due("23: comes to rest", x.round(what), rest[what]);
            due("23: by turns", y.round(what), turns[what]);
        }
        y.set(0, 1);
        due("23: the lead counts, too", y.round(3), 1);
        due("23: nothing is counted", y.count(8) + y.count(10), 0);
        Due.same("23: nothing is moved", word(y), "cab....");
        due("23: no change", y.count(15), 4);
        ShelfSpines z = type(shelf(".b....."), "p1p0p0");
        due("23: there and back", z.round(0) * 10 + z.round(1), 1);
        due("23: there and back is paid", z.round(2), 4);
        ShelfSpines still = type(shelf("cba...."), "l0");
        due("23: disorder that stays", still.round(3), 3);
        due("23: at once", still.round(0) * 10 + still.round(1), 1);
        ShelfSpines none = type(new ShelfSpines(), "p0l0r5");
        due("23: no books", none.round(0) * 10 + none.round(1), 1);
    }

    private static void loosen() {
        ShelfSpines x = shelf("ba.....");
        due("24: none is stuck", x.loosen(), NOWHERE);
        x.stick(1);
        due("24: one is stuck", x.loosen(), 1);
        x.stick(0);
        due("24: b goes at once", x.loosen(), 0);
        ShelfSpines y = shelf("ab.....");
        y.stick(0);
        y.stick(1);
        due("24: in order, the leftmost", y.loosen(), 0);
        ShelfSpines z = shelf("edcba..");
        for (int place = 0; place < 5; place++) {
            z.stick(place);
        }
        due("24: none helps, the leftmost", z.loosen(), 0);
        ShelfSpines w = shelf("..ba..c");
        w.stick(6);
        w.stick(3);
        w.stick(2);
        due("24: b goes at once", w.loosen(), 2);
        ShelfSpines v = shelf("c.abd..");
        v.stick(0);
        v.stick(4);
        v.stick(2);
        due("24: loosening changes nothing", v.count(1), 3);
        v.loosen();
        due("24: loosening changes nothing", v.count(1), 3);
        due("24: no change", v.count(15), 4);
    }

    private static void undo() {
        ShelfSpines x = new ShelfSpines();
        due("25: none", x.undo(), IMPOSSIBLE);
        x.add(1, 2, 0);
        x.add(0, 1, 1);
        x.stick(0);
        x.append('p');
        x.save();
        x.pull(5);
        due("25: four", x.count(15), 4);
        x.set(1, 1);
        due("25: still four", x.count(15), 4);
        due("25: undo set", x.undo(), 3);
        due("25: setting", x.count(13), 0);
        due("25: refused", x.count(10), 1);
        due("25: undo pull", x.undo(), 2);
        due("25: refused", x.count(10), 0);
        due("25: undo stick", x.undo(), 1);
        due("25: stuck", x.count(1), 0);
        due("25: undo add", x.undo(), 0);
        Due.same("25: the first was dropped", word(x), "b......");
        due("25: none", x.undo(), IMPOSSIBLE);
        due("25: pad", x.count(14), 1);
        due("25: snapshot", x.restore() >= 0 ? 1 : 0, 1);
        Due.same("25: snapshot", word(x), "ba.....");
        due("25: undo restore", x.undo(), 0);
        Due.same("25: back", word(x), "b......");
        due("25: undo brings back no error's state", x.pull(9), INVALID);
        due("25: none", x.undo(), IMPOSSIBLE);
    }

    private static void snapshot() {
        ShelfSpines x = shelf("ba.....");
        due("27: none", x.restore(), IMPOSSIBLE);
        int rank = x.count(5);
        x.stick(1);
        x.set(0, 1);
        x.pull(6);
        due("26: save", x.save(), rank);
        due("26: no change", x.count(15), 4);
        x.append('p');
        x.stick(0);
        x.set(0, 0);
        x.set(1, 1);
        x.push(0, true);
        x.remove(1);
        due("27: restore", x.restore(), rank);
        due("27: a change", x.count(15), 4);
        Due.same("27: word", word(x), "ba.....");
        due("27: stuck", x.at(0, 2) * 10 + x.at(1, 2), 1);
        due("27: settings", x.count(12) * 10 + x.count(13), 10);
        due("27: accounts", x.count(8) * 100 + x.count(9) * 10 + x.count(10), 1);
        due("27: pad", x.count(14), 1);
        due("27: undo", x.undo(), 3);
        Due.same("27: undo", word(x), "..a....");
        due("27: stays", x.restore(), rank);
        x.pull(0);
        due("26: in place of the other", x.save(), x.count(5));
        x.remove(2);
        due("27: restore", x.restore(), x.count(5));
        Due.same("27: word", word(x), ".ab....");
    }

    public static void main(String[] args) {
        newObject();
        add();
        remove();
        stick();
        pull();
        push();
        set();
        appendAndClear();
        fault();
        arrange();
        run();
        at();
        looksAtMoves();
        words();
        counts();
        least();
        plan();
        all();
        mean();
        round();
        loosen();
        undo();
        snapshot();
        Due.end();
    }
}
