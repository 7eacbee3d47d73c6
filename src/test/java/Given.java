/** Shelves and texts that tests begin with, and what can be seen of them. */
final class Given {
    static final int INVALID = -1, IMPOSSIBLE = -2, LIMIT = -3, NOWHERE = -4;
    static final int MAX = Integer.MAX_VALUE, MIN = Integer.MIN_VALUE;

    private Given() {
    }

    /** A shelf with the books of the word; the weight of a is 1, of b 2, and so on, up to 9. */
    static ShelfSpines shelf(String word) {
        ShelfSpines x = new ShelfSpines();
        for (int place = 0; place < word.length(); place++) {
            if (word.charAt(place) != '.') {
                int letter = word.charAt(place) - 'a';
                x.add(letter, Math.min(9, letter + 1), place);
            }
        }
        return x;
    }

    /** A shelf with the books of the word, the weights told place by place. */
    static ShelfSpines shelf(String word, String weights) {
        ShelfSpines x = new ShelfSpines();
        for (int place = 0; place < word.length(); place++) {
            if (word.charAt(place) != '.') {
                x.add(word.charAt(place) - 'a', weights.charAt(place) - '0', place);
            }
        }
        return x;
    }

    static ShelfSpines stuck(ShelfSpines x, int... places) {
        for (int place : places) {
            x.stick(place);
        }
        return x;
    }

    static ShelfSpines type(ShelfSpines x, String text) {
        x.clear();
        for (int i = 0; i < text.length(); i++) {
            x.append(text.charAt(i));
        }
        return x;
    }

    /** Makes a move by its number, as pull or push answers. */
    static int make(ShelfSpines x, int move) {
        return move < 7 ? x.pull(move) : x.push((move - 7) % 6, move < 13);
    }

    private static char sign(int letter) {
        return letter == NOWHERE ? '.' : (char) ('a' + letter);
    }

    /** The word of now. */
    static String word(ShelfSpines x) {
        StringBuilder found = new StringBuilder();
        for (int place = 0; place < 7; place++) {
            found.append(sign(x.at(place, 0)));
        }
        return found.toString();
    }

    /** The word of a rank. */
    static String word(ShelfSpines x, int rank) {
        StringBuilder found = new StringBuilder();
        for (int place = 0; place < 7; place++) {
            found.append(sign(x.word(rank, place)));
        }
        return found.toString();
    }

    /** What can be seen of the shelf, of its books and of the pad, by 43 calls. */
    static String seen(ShelfSpines x) {
        StringBuilder found = new StringBuilder(word(x)).append(" counts");
        for (int what = 0; what < 16; what++) {
            found.append(' ').append(x.count(what));
        }
        found.append(" weights, stuck");
        for (int place = 0; place < 7; place++) {
            found.append(' ').append(x.at(place, 1)).append(' ').append(x.at(place, 2));
        }
        found.append(" faults ").append(x.fault(0)).append(' ').append(x.fault(1)).append(" rounds");
        for (int what = 0; what < 4; what++) {
            found.append(' ').append(x.round(what));
        }
        return found.toString();
    }
}
