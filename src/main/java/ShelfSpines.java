/**
 * Books on a shelf of 7 places that are pulled by one and pushed by two, and how far the shelf is from order.
 *
 * A word of the shelf is held packed in one int: three bits for each place, 0 for a gap, otherwise the slot of
 * the book. The slots 1 to 5 are given to the books by rising letters, so that words of equally many books have
 * the same ranks and lead to one another by the same moves, whatever the letters are.
 */
public final class ShelfSpines {
    public static final int INVALID_ARGUMENT = -1;
    public static final int NOT_POSSIBLE = -2;
    public static final int LIMIT_REACHED = -3;
    public static final int NOT_FOUND = -4;
    public static final int FALLING = 0, CLOSED = 1;

    private static final int PLACES = 7;
    private static final int PAIRS = 6;
    private static final int MOVES = 19;
    private static final int FIRST_PUSH_RIGHT = 7;
    private static final int FIRST_PUSH_LEFT = 13;
    private static final int LETTERS = 26;
    private static final int MOST_WEIGHT = 9;
    private static final int MOST_BOOKS = 5;
    private static final int MOST_SIGNS = 60;
    private static final int MOST_STATES = 4;
    /** The words of 5 books, which are the most. */
    private static final int MOST_WORDS = 2520;
    /** The words of 0, 1, 2, 3, 4 and 5 books together: 1 + 7 + 42 + 210 + 840 + 2520. */
    private static final int NODES = 3620;
    private static final int NONE = -1;

    private static final int NO_BOOK = 1;
    private static final int STUCK = 2;
    private static final int NO_PAIR = 3;
    private static final int NO_GAP = 4;

    private final Shelf shelf;
    private final Shelf snapshot;
    private boolean hasSnapshot;
    private final History history;
    private final Pad pad;
    private final Graph graph;
    private final Search search;
    private final Rounds rounds;

    public ShelfSpines() {
        shelf = new Shelf();
        snapshot = new Shelf();
        hasSnapshot = false;
        history = new History();
        pad = new Pad();
        graph = new Graph();
        search = new Search(graph);
        rounds = new Rounds();
    }

    // ---- books

    public int add(int letter, int weight, int place) {
        if (!isBelow(letter, LETTERS) || weight < 1 || weight > MOST_WEIGHT || !isBelow(place, PLACES)) {
            return INVALID_ARGUMENT;
        }
        if (shelf.slotOf(letter) != 0 || Spines.slotAt(shelf.packed, place) != 0) {
            return NOT_POSSIBLE;
        }
        if (shelf.books >= MOST_BOOKS) {
            return LIMIT_REACHED;
        }
        history.keep(shelf);
        shelf.insert(letter, weight, place);
        return shelf.books;
    }

    public int remove(int place) {
        if (!isBelow(place, PLACES)) {
            return INVALID_ARGUMENT;
        }
        if (Spines.slotAt(shelf.packed, place) == 0) {
            return NOT_POSSIBLE;
        }
        history.keep(shelf);
        return shelf.takeOff(place);
    }

    public int stick(int place) {
        if (!isBelow(place, PLACES)) {
            return INVALID_ARGUMENT;
        }
        int slot = Spines.slotAt(shelf.packed, place);
        if (slot == 0) {
            return NOT_POSSIBLE;
        }
        history.keep(shelf);
        shelf.stuck ^= 1 << slot;
        return Spines.isIn(shelf.stuck, slot) ? 1 : 0;
    }

    // ---- moves

    public int pull(int place) {
        if (!isBelow(place, PLACES)) {
            return INVALID_ARGUMENT;
        }
        int target = Spines.gapBeside(shelf.packed, place);
        history.keep(shelf);
        int reason = shelf.tryMove(place);
        return reason != 0 ? reason : 10 + target;
    }

    public int push(int place, boolean toRight) {
        if (!isBelow(place, PAIRS)) {
            return INVALID_ARGUMENT;
        }
        history.keep(shelf);
        return shelf.tryMove((toRight ? FIRST_PUSH_RIGHT : FIRST_PUSH_LEFT) + place);
    }

    public int set(int what, int value) {
        if (!isBelow(what, 2) || !isBelow(value, 2)) {
            return INVALID_ARGUMENT;
        }
        history.keep(shelf);
        int before;
        if (what == FALLING) {
            before = shelf.falling;
            shelf.falling = value;
        } else {
            before = shelf.closed;
            shelf.closed = value;
        }
        return before;
    }

    // ---- texts

    public int append(int code) {
        if (code < 33 || code > 126) {
            return INVALID_ARGUMENT;
        }
        if (pad.length >= MOST_SIGNS) {
            return LIMIT_REACHED;
        }
        pad.write(code);
        return pad.length;
    }

    public int clear() {
        int before = pad.length;
        pad.length = 0;
        return before;
    }

    public int fault(int way) {
        if (!isBelow(way, 2)) {
            return INVALID_ARGUMENT;
        }
        return way == 0 ? pad.programFault() : pad.wordFault(shelf);
    }

    public int arrange() {
        if (pad.wordFault(shelf) != NOT_FOUND) {
            return NOT_POSSIBLE;
        }
        history.keep(shelf);
        shelf.packed = pad.readWord(shelf);
        pad.length = 0;
        return shelf.rankOfNow();
    }

    public int run() {
        if (pad.programFault() != NOT_FOUND) {
            return NOT_POSSIBLE;
        }
        history.keep(shelf);
        int before = shelf.made;
        for (int step = 0; step < pad.steps(); step++) {
            shelf.tryMove(pad.moveAt(step));
        }
        return shelf.made - before;
    }

    // ---- looks; nothing is changed

    public int at(int place, int what) {
        if (!isBelow(place, PLACES) || !isBelow(what, 6)) {
            return INVALID_ARGUMENT;
        }
        int slot = Spines.slotAt(shelf.packed, place);
        if (slot == 0) {
            return what == 5 ? place : NOT_FOUND;
        }
        switch (what) {
            case 0:
                return shelf.letters.get(slot);
            case 1:
                return shelf.weights.get(slot);
            case 2:
                return Spines.isIn(shelf.stuck, slot) ? 1 : 0;
            case 4:
                return Spines.wrongBooks(shelf.packed, place, shelf.falling);
            default:
                return Spines.gapBeside(shelf.packed, place);
        }
    }

    public int whyNot(int move) {
        if (!isBelow(move, MOVES)) {
            return INVALID_ARGUMENT;
        }
        return Spines.reason(shelf.packed, shelf.stuck, move);
    }

    public int cost(int move) {
        if (!isBelow(move, MOVES)) {
            return INVALID_ARGUMENT;
        }
        if (Spines.reason(shelf.packed, shelf.stuck, move) != 0) {
            return NOT_POSSIBLE;
        }
        return Spines.price(shelf.packed, shelf.weights, move);
    }

    public int leads(int move) {
        if (!isBelow(move, MOVES)) {
            return INVALID_ARGUMENT;
        }
        if (Spines.reason(shelf.packed, shelf.stuck, move) != 0) {
            return NOT_POSSIBLE;
        }
        return Ranks.rankOf(Spines.after(shelf.packed, move), shelf.books);
    }

    public int word(int rank, int place) {
        if (!isBelow(rank, Ranks.wordsOf(shelf.books)) || !isBelow(place, PLACES)) {
            return INVALID_ARGUMENT;
        }
        int slot = Spines.slotAt(Ranks.wordAt(rank, shelf.books), place);
        return slot == 0 ? NOT_FOUND : shelf.letters.get(slot);
    }

    public int count(int what) {
        switch (what) {
            case 0:
                return shelf.books;
            case 1:
                return Integer.bitCount(shelf.stuck);
            case 2:
                return shelf.sumOfWeights();
            case 3:
                return Spines.isInOrder(shelf.packed, shelf.falling, shelf.closed) ? 1 : 0;
            case 4:
                return Spines.disorder(shelf.packed, shelf.falling);
            case 5:
                return shelf.rankOfNow();
            case 6:
                return Ranks.wordsOf(shelf.books);
            case 7:
                return shelf.closed == 1 ? 1 : Ranks.risingWordsOf(shelf.books);
            default:
                return countAccounts(what);
        }
    }

    private int countAccounts(int what) {
        switch (what) {
            case 8:
                return shelf.made;
            case 9:
                return shelf.spent;
            case 10:
                return shelf.refused;
            case 11:
                return shelf.possibleMoves();
            case 12:
                return shelf.falling;
            case 13:
                return shelf.closed;
            case 14:
                return pad.length;
            case 15:
                return history.length;
            default:
                return INVALID_ARGUMENT;
        }
    }

    // ---- how far; nothing is changed

    public int least(int rank, int what) {
        if (!isBelow(rank, Ranks.wordsOf(shelf.books)) || !isBelow(what, 3)) {
            return INVALID_ARGUMENT;
        }
        int way = drawnSearch().wayFrom(shelf, rank, what);
        return way == NONE ? NOT_FOUND : way;
    }

    public int plan(boolean byCost, int step) {
        if (step < 0) {
            return INVALID_ARGUMENT;
        }
        int move = drawnSearch().plannedMove(shelf, byCost, step);
        return move == NONE ? NOT_FOUND : move;
    }

    public int all(int what) {
        switch (what) {
            case 0:
                return drawnSearch().savableWords(shelf);
            case 1:
                return drawnSearch().greatestWay(shelf, 0);
            case 2:
                return drawnSearch().greatestWay(shelf, 1);
            case 3:
                return drawnSearch().worstRank(shelf);
            case 4:
                return drawnSearch().reach(shelf, shelf.stuck);
            default:
                return INVALID_ARGUMENT;
        }
    }

    public double mean() {
        int words = drawnSearch().savableWords(shelf);
        return words > 0 ? (double) search.sumOfWays(shelf) / (double) words : 0.0;
    }

    public int round(int what) {
        if (!isBelow(what, 4)) {
            return INVALID_ARGUMENT;
        }
        if (pad.programFault() != NOT_FOUND) {
            return NOT_POSSIBLE;
        }
        rounds.follow(shelf, pad);
        switch (what) {
            case 0:
                return rounds.lead;
            case 1:
                return rounds.cycle;
            case 2:
                return rounds.cycleCosts;
            default:
                return rounds.leastDisorder;
        }
    }

    public int loosen() {
        int best = NOT_FOUND;
        int bestWay = NONE;
        for (int place = 0; place < PLACES; place++) {
            int slot = Spines.slotAt(shelf.packed, place);
            if (Spines.isIn(shelf.stuck, slot)) {
                int way = drawnSearch().wayWith(shelf, shelf.stuck & ~(1 << slot));
                if (best == NOT_FOUND || way != NONE && (bestWay == NONE || way < bestWay)) {
                    best = place;
                    bestWay = way;
                }
            }
        }
        return best;
    }

    // ---- history, snapshot

    public int undo() {
        if (history.length == 0) {
            return NOT_POSSIBLE;
        }
        history.giveBack(shelf);
        return history.length;
    }

    public int save() {
        snapshot.become(shelf);
        hasSnapshot = true;
        return shelf.rankOfNow();
    }

    public int restore() {
        if (!hasSnapshot) {
            return NOT_POSSIBLE;
        }
        history.keep(shelf);
        shelf.become(snapshot);
        return shelf.rankOfNow();
    }

    /** The search, behind the drawing of the graph on which it walks. */
    private Search drawnSearch() {
        graph.draw(shelf.books);
        return search;
    }

    private static boolean isBelow(int number, int bound) {
        return number >= 0 && number < bound;
    }

    /** Whole numbers behind an index that is looked at: outside of the row 0 is read, and nothing is written. */
    private static final class Row {
        private final int[] cells;

        Row(int length) {
            cells = new int[length > 0 ? length : 0];
        }

        int get(int index) {
            return index >= 0 && index < cells.length ? cells[index] : 0;
        }

        void put(int index, int value) {
            if (index >= 0 && index < cells.length) {
                cells[index] = value;
            }
        }

        void become(Row other) {
            for (int index = 0; index < cells.length; index++) {
                cells[index] = other.get(index);
            }
        }
    }

    /** What moves do to packed words, and how these are ordered. */
    private static final class Spines {
        static int slotAt(int packed, int place) {
            return packed >>> 3 * place & 7;
        }

        static int withSlot(int packed, int place, int slot) {
            return packed & ~(7 << 3 * place) | slot << 3 * place;
        }

        static boolean isGap(int packed, int place) {
            return place >= 0 && place < PLACES && (packed >>> 3 * place & 7) == 0;
        }

        static boolean isIn(int slots, int slot) {
            return (slots >>> slot & 1) == 1;
        }

        /** The nearest gap but the place itself, of two the left one; 2 gaps are always there. */
        static int gapBeside(int packed, int place) {
            for (int distance = 1; distance < PLACES; distance++) {
                if (isGap(packed, place - distance)) {
                    return place - distance;
                }
                if (isGap(packed, place + distance)) {
                    return place + distance;
                }
            }
            return place;
        }

        static boolean isPull(int move) {
            return move < FIRST_PUSH_RIGHT;
        }

        static int placeOf(int move) {
            if (move < FIRST_PUSH_RIGHT) {
                return move;
            }
            return move < FIRST_PUSH_LEFT ? move - FIRST_PUSH_RIGHT : move - FIRST_PUSH_LEFT;
        }

        /** Why a move is refused; 0 if it is not. */
        static int reason(int packed, int stuck, int move) {
            int place = placeOf(move);
            int slot = slotAt(packed, place);
            if (isPull(move)) {
                if (slot == 0) {
                    return NO_BOOK;
                }
                return isIn(stuck, slot) ? STUCK : 0;
            }
            if (slot == 0 || slotAt(packed, place + 1) == 0) {
                return NO_PAIR;
            }
            return isGap(packed, move < FIRST_PUSH_LEFT ? place + 2 : place - 1) ? 0 : NO_GAP;
        }

        /** The word behind a move that is not refused. */
        static int after(int packed, int move) {
            int place = placeOf(move);
            int slot = slotAt(packed, place);
            if (isPull(move)) {
                return withSlot(withSlot(packed, place, 0), gapBeside(packed, place), slot);
            }
            int second = slotAt(packed, place + 1);
            if (move < FIRST_PUSH_LEFT) {
                return withSlot(withSlot(withSlot(packed, place, 0), place + 1, slot), place + 2, second);
            }
            return withSlot(withSlot(withSlot(packed, place + 1, 0), place - 1, slot), place, second);
        }

        /** What a move costs that is not refused. */
        static int price(int packed, Row weights, int move) {
            int place = placeOf(move);
            int weight = weights.get(slotAt(packed, place));
            if (isPull(move)) {
                return weight;
            }
            return Math.max(weight, weights.get(slotAt(packed, place + 1)));
        }

        static boolean isWrong(int left, int right, int falling) {
            return left != 0 && right != 0 && (falling == 1 ? left < right : left > right);
        }

        static int wrongBooks(int packed, int place, int falling) {
            int slot = slotAt(packed, place);
            int wrong = 0;
            for (int other = 0; other < PLACES; other++) {
                int left = other < place ? slotAt(packed, other) : slot;
                int right = other < place ? slot : slotAt(packed, other);
                if (isWrong(left, right, falling)) {
                    wrong++;
                }
            }
            return wrong;
        }

        static int disorder(int packed, int falling) {
            int wrong = 0;
            for (int place = 0; place < PLACES; place++) {
                wrong += wrongBooks(packed, place, falling);
            }
            // Each pair was met at both of its books.
            return wrong >> 1;
        }

        static boolean isInOrder(int packed, int falling, int closed) {
            int last = 0;
            boolean gap = false;
            for (int place = 0; place < PLACES; place++) {
                int slot = slotAt(packed, place);
                if (slot == 0) {
                    gap = true;
                } else if (gap && closed == 1 || isWrong(last, slot, falling)) {
                    return false;
                } else {
                    last = slot;
                }
            }
            return true;
        }
    }

    /** The dictionary of the words that some number of books can make. */
    private static final class Ranks {
        /** In how many ways so many gaps and books can stand on as many places. */
        static int ways(int gaps, int books) {
            int product = 1;
            for (int factor = gaps + 1; factor <= gaps + books; factor++) {
                product *= factor;
            }
            return product;
        }

        static int wordsOf(int books) {
            return ways(PLACES - books, books);
        }

        static int risingWordsOf(int books) {
            int orders = ways(0, books);
            return orders > 0 ? wordsOf(books) / orders : 0;
        }

        static int rankOf(int packed, int books) {
            int gapsLeft = PLACES - books;
            int booksLeft = books;
            int slotsLeft = (1 << books + 1) - 2;
            int rank = 0;
            for (int place = 0; place < PLACES; place++) {
                int slot = Spines.slotAt(packed, place);
                if (slot == 0) {
                    gapsLeft--;
                } else {
                    if (gapsLeft > 0) {
                        rank += ways(gapsLeft - 1, booksLeft);
                    }
                    booksLeft--;
                    rank += Integer.bitCount(slotsLeft & (1 << slot) - 1) * ways(gapsLeft, booksLeft);
                    slotsLeft &= ~(1 << slot);
                }
            }
            return rank;
        }

        static int wordAt(int rank, int books) {
            int gapsLeft = PLACES - books;
            int booksLeft = books;
            int slotsLeft = (1 << books + 1) - 2;
            int rest = rank;
            int packed = 0;
            for (int place = 0; place < PLACES; place++) {
                int withGap = gapsLeft > 0 ? ways(gapsLeft - 1, booksLeft) : 0;
                if (rest < withGap) {
                    gapsLeft--;
                } else {
                    rest -= withGap;
                    booksLeft--;
                    int withBook = ways(gapsLeft, booksLeft);
                    int lesser = withBook > 0 ? rest / withBook : 0;
                    rest -= lesser * withBook;
                    int slot = slotBehind(slotsLeft, lesser);
                    slotsLeft &= ~(1 << slot);
                    packed = Spines.withSlot(packed, place, slot);
                }
            }
            return packed;
        }

        /** The slot among these behind so many lesser ones. */
        private static int slotBehind(int slots, int lesser) {
            int passed = 0;
            for (int slot = 1; slot <= MOST_BOOKS; slot++) {
                if (Spines.isIn(slots, slot)) {
                    if (passed == lesser) {
                        return slot;
                    }
                    passed++;
                }
            }
            return 0;
        }
    }

    /** All that is kept in the history and in the snapshot. */
    private static final class Shelf {
        private int packed;
        private int books;
        private final Row letters;
        private final Row weights;
        /** A bit for each slot. */
        private int stuck;
        private int falling;
        private int closed;
        private int made;
        private int spent;
        private int refused;

        Shelf() {
            letters = new Row(MOST_BOOKS + 1);
            weights = new Row(MOST_BOOKS + 1);
        }

        void become(Shelf other) {
            packed = other.packed;
            books = other.books;
            letters.become(other.letters);
            weights.become(other.weights);
            stuck = other.stuck;
            falling = other.falling;
            closed = other.closed;
            made = other.made;
            spent = other.spent;
            refused = other.refused;
        }

        /** The slot of the book with this letter; 0 if there is none. */
        int slotOf(int letter) {
            for (int slot = 1; slot <= books; slot++) {
                if (letters.get(slot) == letter) {
                    return slot;
                }
            }
            return 0;
        }

        void insert(int letter, int weight, int place) {
            int slot = 1;
            for (int other = 1; other <= books; other++) {
                if (letters.get(other) < letter) {
                    slot++;
                }
            }
            for (int other = books; other >= slot; other--) {
                letters.put(other + 1, letters.get(other));
                weights.put(other + 1, weights.get(other));
            }
            letters.put(slot, letter);
            weights.put(slot, weight);
            renumber(slot, 1);
            int below = stuck & (1 << slot) - 1;
            stuck = stuck - below << 1 | below;
            packed = Spines.withSlot(packed, place, slot);
            books++;
        }

        int takeOff(int place) {
            int slot = Spines.slotAt(packed, place);
            int letter = letters.get(slot);
            packed = Spines.withSlot(packed, place, 0);
            for (int other = slot; other < books; other++) {
                letters.put(other, letters.get(other + 1));
                weights.put(other, weights.get(other + 1));
            }
            renumber(slot + 1, -1);
            int below = stuck & (1 << slot) - 1;
            stuck = stuck >>> slot + 1 << slot | below;
            books--;
            return letter;
        }

        private void renumber(int from, int by) {
            for (int place = 0; place < PLACES; place++) {
                int slot = Spines.slotAt(packed, place);
                if (slot >= from) {
                    packed = Spines.withSlot(packed, place, slot + by);
                }
            }
        }

        /** Makes and counts a move, or counts it as refused; tells the reason, or 0. */
        int tryMove(int move) {
            int reason = Spines.reason(packed, stuck, move);
            if (reason != 0) {
                refused++;
                return reason;
            }
            made++;
            spent += Spines.price(packed, weights, move);
            packed = Spines.after(packed, move);
            return 0;
        }

        int rankOfNow() {
            return Ranks.rankOf(packed, books);
        }

        int sumOfWeights() {
            int sum = 0;
            for (int slot = 1; slot <= books; slot++) {
                sum += weights.get(slot);
            }
            return sum;
        }

        int possibleMoves() {
            int possible = 0;
            for (int move = 0; move < MOVES; move++) {
                if (Spines.reason(packed, stuck, move) == 0) {
                    possible++;
                }
            }
            return possible;
        }

        /** All that the fewest moves from the words depend on, in one number. */
        int keyOfMoves() {
            return ((stuck << 1 | falling) << 1 | closed) << 3 | books;
        }

        /** All that the least costs from the words depend on, in one number. */
        int keyOfCosts() {
            int key = 0;
            for (int slot = 1; slot <= books; slot++) {
                key = key << 4 | weights.get(slot);
            }
            // 11 bits hold each key of moves.
            return key << 11 | keyOfMoves();
        }
    }

    /** The states before the latest changes, the oldest one first. */
    private static final class History {
        private final Shelf[] states;
        private int length;

        History() {
            states = new Shelf[MOST_STATES];
            for (int index = 0; index < states.length; index++) {
                states[index] = new Shelf();
            }
        }

        void keep(Shelf now) {
            if (length >= states.length) {
                dropOldest();
            }
            if (length >= 0 && length < states.length && states[length] != null) {
                states[length].become(now);
                length++;
            }
        }

        private void dropOldest() {
            for (int index = 1; index < states.length; index++) {
                Shelf older = states[index - 1];
                states[index - 1] = states[index];
                states[index] = older;
            }
            length--;
        }

        void giveBack(Shelf now) {
            int latest = length - 1;
            if (latest >= 0 && latest < states.length && states[latest] != null) {
                now.become(states[latest]);
                length = latest;
            }
        }
    }

    /** The text, read as a program or as a word. */
    private static final class Pad {
        private final Row signs;
        private int length;

        Pad() {
            signs = new Row(MOST_SIGNS);
        }

        void write(int code) {
            signs.put(length, code);
            length++;
        }

        int programFault() {
            for (int index = 0; index < length; index++) {
                int sign = signs.get(index);
                boolean fits = (index & 1) == 0 ? isKind(sign) : isPlaceFor(signs.get(index - 1), sign);
                if (!fits) {
                    return index;
                }
            }
            return length == 0 || (length & 1) == 1 ? length : NOT_FOUND;
        }

        private static boolean isKind(int sign) {
            return sign == 'p' || sign == 'r' || sign == 'l';
        }

        private static boolean isPlaceFor(int kind, int sign) {
            return sign >= '0' && sign < '0' + (kind == 'p' ? PLACES : PAIRS);
        }

        int steps() {
            return length >> 1;
        }

        /** The move of a step of a pad that has no fault as a program. */
        int moveAt(int step) {
            int kind = signs.get(2 * step);
            int place = signs.get(2 * step + 1) - '0';
            if (kind == 'p') {
                return place;
            }
            return place + (kind == 'r' ? FIRST_PUSH_RIGHT : FIRST_PUSH_LEFT);
        }

        int wordFault(Shelf shelf) {
            int gapsLeft = PLACES - shelf.books;
            int slotsLeft = (1 << shelf.books + 1) - 2;
            for (int index = 0; index < length; index++) {
                int sign = signs.get(index);
                int slot = slotOfSign(shelf, sign);
                if (sign == '.' ? gapsLeft == 0 : !Spines.isIn(slotsLeft, slot)) {
                    return index;
                }
                if (sign == '.') {
                    gapsLeft--;
                } else {
                    slotsLeft &= ~(1 << slot);
                }
            }
            return length < PLACES ? length : NOT_FOUND;
        }

        private static int slotOfSign(Shelf shelf, int sign) {
            return shelf.slotOf(sign - 'a');
        }

        /** The word of a pad that has no fault as a word. */
        int readWord(Shelf shelf) {
            int packed = 0;
            for (int place = 0; place < PLACES; place++) {
                packed = Spines.withSlot(packed, place, slotOfSign(shelf, signs.get(place)));
            }
            return packed;
        }
    }

    /**
     * The words as nodes, those of fewer books ahead, and where moves lead, whether a book is stuck or not. It is
     * drawn once for each number of books, as it depends on nothing else.
     */
    private static final class Graph {
        private final Row words;
        /** For each node and move the node behind it, or NONE. */
        private final Row onward;
        /** The steps (node and move in one number) that lead into a node, from intoStart to before intoEnd. */
        private final Row into;
        private final Row intoStart;
        private final Row intoEnd;
        /** A bit for each number of books. */
        private int drawn;

        Graph() {
            words = new Row(NODES);
            onward = new Row(NODES * MOVES);
            into = new Row(NODES * MOVES);
            intoStart = new Row(NODES);
            intoEnd = new Row(NODES);
        }

        static int firstNode(int books) {
            int node = 0;
            for (int fewer = 0; fewer < books; fewer++) {
                node += Ranks.wordsOf(fewer);
            }
            return node;
        }

        void draw(int books) {
            if (!Spines.isIn(drawn, books)) {
                drawn |= 1 << books;
                int first = firstNode(books);
                int end = first + Ranks.wordsOf(books);
                drawOnward(books, first, end);
                shareOut(first, end);
                drawInto(first, end);
            }
        }

        private void drawOnward(int books, int first, int end) {
            for (int node = first; node < end; node++) {
                int packed = Ranks.wordAt(node - first, books);
                words.put(node, packed);
                for (int move = 0; move < MOVES; move++) {
                    int target = NONE;
                    if (Spines.reason(packed, 0, move) == 0) {
                        target = first + Ranks.rankOf(Spines.after(packed, move), books);
                        intoEnd.put(target, intoEnd.get(target) + 1);
                    }
                    onward.put(node * MOVES + move, target);
                }
            }
        }

        /** Gives each node as much room as steps into it were counted. */
        private void shareOut(int first, int end) {
            int start = first * MOVES;
            for (int node = first; node < end; node++) {
                int steps = intoEnd.get(node);
                intoStart.put(node, start);
                intoEnd.put(node, start);
                start += steps;
            }
        }

        private void drawInto(int first, int end) {
            for (int step = first * MOVES; step < end * MOVES; step++) {
                int target = onward.get(step);
                if (target != NONE) {
                    into.put(intoEnd.get(target), step);
                    intoEnd.put(target, intoEnd.get(target) + 1);
                }
            }
        }

        int behind(int node, int move) {
            return onward.get(node * MOVES + move);
        }

        /** Whether a step of the graph is a pull of a stuck book. */
        boolean isHeld(int node, int move, int stuck) {
            return Spines.isPull(move) && Spines.isIn(stuck, Spines.slotAt(words.get(node), move));
        }
    }

    /** How far all words are from order; what was found is kept until it depends on something else. */
    private static final class Search {
        private static final int MOST_COST = MOST_WEIGHT * MOST_WORDS;

        private final Graph graph;
        /** By nodes; NONE if there are no such moves. */
        private final Row fewest;
        private final Row settled;
        private final Row lowered;
        private int keyOfFewest;
        private int keyOfSettled;
        private int keyOfLowered;
        /** By nodes how many moves lead there from the word of now, and the nodes by that. */
        private final Row reached;
        private final Row queue;

        Search(Graph drawn) {
            graph = drawn;
            fewest = new Row(NODES);
            settled = new Row(NODES);
            lowered = new Row(NODES);
            keyOfFewest = NONE;
            keyOfSettled = NONE;
            keyOfLowered = NONE;
            reached = new Row(NODES);
            queue = new Row(NODES);
        }

        int wayFrom(Shelf shelf, int rank, int what) {
            return findWays(shelf, what).get(Graph.firstNode(shelf.books) + rank);
        }

        int plannedMove(Shelf shelf, boolean byCost, int step) {
            Row ways = findWays(shelf, byCost ? 1 : 0);
            int node = Graph.firstNode(shelf.books) + shelf.rankOfNow();
            int move = NONE;
            for (int passed = 0; passed <= step && passed < MOST_WORDS; passed++) {
                move = nextMove(shelf, ways, byCost, node);
                if (move == NONE) {
                    return NONE;
                }
                node = graph.behind(node, move);
            }
            return step < MOST_WORDS ? move : NONE;
        }

        int savableWords(Shelf shelf) {
            Row ways = findWays(shelf, 0);
            int first = Graph.firstNode(shelf.books);
            int words = 0;
            for (int rank = 0; rank < Ranks.wordsOf(shelf.books); rank++) {
                if (ways.get(first + rank) != NONE) {
                    words++;
                }
            }
            return words;
        }

        int sumOfWays(Shelf shelf) {
            Row ways = findWays(shelf, 0);
            int first = Graph.firstNode(shelf.books);
            int sum = 0;
            for (int rank = 0; rank < Ranks.wordsOf(shelf.books); rank++) {
                sum += Math.max(ways.get(first + rank), 0);
            }
            return sum;
        }

        int greatestWay(Shelf shelf, int what) {
            Row ways = findWays(shelf, what);
            int first = Graph.firstNode(shelf.books);
            int greatest = 0;
            for (int rank = 0; rank < Ranks.wordsOf(shelf.books); rank++) {
                greatest = Math.max(greatest, ways.get(first + rank));
            }
            return greatest;
        }

        int worstRank(Shelf shelf) {
            Row ways = findWays(shelf, 0);
            int first = Graph.firstNode(shelf.books);
            int greatest = NONE;
            int worst = 0;
            for (int rank = 0; rank < Ranks.wordsOf(shelf.books); rank++) {
                if (ways.get(first + rank) > greatest) {
                    greatest = ways.get(first + rank);
                    worst = rank;
                }
            }
            return worst;
        }

        /** How many words can be reached from the word of now with these slots stuck; they stand in the queue. */
        int reach(Shelf shelf, int stuck) {
            int first = Graph.firstNode(shelf.books);
            for (int rank = 0; rank < Ranks.wordsOf(shelf.books); rank++) {
                reached.put(first + rank, NONE);
            }
            int start = first + shelf.rankOfNow();
            reached.put(start, 0);
            queue.put(0, start);
            int length = 1;
            for (int head = 0; head < length && head < MOST_WORDS; head++) {
                length = reachOn(queue.get(head), stuck, length);
            }
            return length;
        }

        private int reachOn(int node, int stuck, int length) {
            int longer = length;
            for (int move = 0; move < MOVES; move++) {
                int target = graph.behind(node, move);
                if (target != NONE && reached.get(target) == NONE && !graph.isHeld(node, move, stuck)) {
                    reached.put(target, reached.get(node) + 1);
                    queue.put(longer, target);
                    longer++;
                }
            }
            return longer;
        }

        /** The fewest moves from the word of now with these slots stuck; NONE if there are none. */
        int wayWith(Shelf shelf, int stuck) {
            int length = reach(shelf, stuck);
            // The queue goes by rising numbers of moves.
            for (int index = 0; index < length; index++) {
                int node = queue.get(index);
                if (Spines.isInOrder(graph.words.get(node), shelf.falling, shelf.closed)) {
                    return reached.get(node);
                }
            }
            return NONE;
        }

        /** The least move by which the way becomes shorter by what it takes; NONE if there is none. */
        private int nextMove(Shelf shelf, Row ways, boolean byCost, int node) {
            for (int move = 0; move < MOVES; move++) {
                int target = graph.behind(node, move);
                if (target != NONE && ways.get(target) != NONE && !graph.isHeld(node, move, shelf.stuck)) {
                    int takes = byCost ? Spines.price(graph.words.get(node), shelf.weights, move) : 1;
                    if (takes + ways.get(target) == ways.get(node)) {
                        return move;
                    }
                }
            }
            return NONE;
        }

        private Row findWays(Shelf shelf, int what) {
            switch (what) {
                case 0:
                    findFewest(shelf);
                    return fewest;
                case 1:
                    settleCosts(shelf);
                    return settled;
                default:
                    lowerCosts(shelf);
                    return lowered;
            }
        }

        /** Words in order have no way to go, others none that is known yet. */
        private void startAtOrder(Shelf shelf, Row ways, int first, int end) {
            for (int node = first; node < end; node++) {
                boolean done = Spines.isInOrder(graph.words.get(node), shelf.falling, shelf.closed);
                ways.put(node, done ? 0 : NONE);
            }
        }

        /** Goes back from the words in order, all words that take equally many moves one after the other. */
        private void findFewest(Shelf shelf) {
            int key = shelf.keyOfMoves();
            if (key == keyOfFewest) {
                return;
            }
            keyOfFewest = key;
            int first = Graph.firstNode(shelf.books);
            int end = first + Ranks.wordsOf(shelf.books);
            startAtOrder(shelf, fewest, first, end);
            int length = 0;
            for (int node = first; node < end; node++) {
                if (fewest.get(node) == 0) {
                    queue.put(length, node);
                    length++;
                }
            }
            for (int head = 0; head < length && head < MOST_WORDS; head++) {
                length = comeFrom(queue.get(head), shelf.stuck, length);
            }
        }

        private int comeFrom(int node, int stuck, int length) {
            int longer = length;
            for (int index = graph.intoStart.get(node); index < graph.intoEnd.get(node); index++) {
                int step = graph.into.get(index);
                int source = step / MOVES;
                if (fewest.get(source) == NONE && !graph.isHeld(source, step % MOVES, stuck)) {
                    fewest.put(source, fewest.get(node) + 1);
                    queue.put(longer, source);
                    longer++;
                }
            }
            return longer;
        }

        /** Takes the cheapest words that are not settled yet, one after the other, and goes back from them. */
        private void settleCosts(Shelf shelf) {
            int key = shelf.keyOfCosts();
            if (key == keyOfSettled) {
                return;
            }
            keyOfSettled = key;
            int first = Graph.firstNode(shelf.books);
            int end = first + Ranks.wordsOf(shelf.books);
            startAtOrder(shelf, settled, first, end);
            int highest = 0;
            // No move is for nothing, so nothing changes any more at the cost that is looked at.
            for (int cost = 0; cost <= highest && cost <= MOST_COST; cost++) {
                for (int node = first; node < end; node++) {
                    if (settled.get(node) == cost) {
                        highest = Math.max(highest, offerBack(shelf, settled, node));
                    }
                }
            }
        }

        /** Offers the words ahead of one their way over it; tells the highest offer that was taken, or NONE. */
        private int offerBack(Shelf shelf, Row costs, int node) {
            int highest = NONE;
            for (int index = graph.intoStart.get(node); index < graph.intoEnd.get(node); index++) {
                int step = graph.into.get(index);
                int source = step / MOVES;
                int move = step % MOVES;
                int offer = costs.get(node) + Spines.price(graph.words.get(source), shelf.weights, move);
                int known = costs.get(source);
                if ((known == NONE || offer < known) && !graph.isHeld(source, move, shelf.stuck)) {
                    costs.put(source, offer);
                    highest = Math.max(highest, offer);
                }
            }
            return highest;
        }

        /** Lets all words offer their ways again and again, until none becomes cheaper. */
        private void lowerCosts(Shelf shelf) {
            int key = shelf.keyOfCosts();
            if (key == keyOfLowered) {
                return;
            }
            keyOfLowered = key;
            int first = Graph.firstNode(shelf.books);
            int end = first + Ranks.wordsOf(shelf.books);
            startAtOrder(shelf, lowered, first, end);
            boolean cheaper = true;
            for (int pass = 0; cheaper && pass <= MOST_WORDS; pass++) {
                cheaper = false;
                for (int node = first; node < end; node++) {
                    if (lowered.get(node) != NONE && offerBack(shelf, lowered, node) != NONE) {
                        cheaper = true;
                    }
                }
            }
        }
    }

    /** How a program comes round. */
    private static final class Rounds {
        /** By ranks the round ahead of which a word came first, and what was paid until then. */
        private final Row cameAt;
        private final Row paidThen;
        private int packed;
        private int paid;
        private int lead;
        private int cycle;
        private int cycleCosts;
        private int leastDisorder;

        Rounds() {
            cameAt = new Row(MOST_WORDS);
            paidThen = new Row(MOST_WORDS);
        }

        void follow(Shelf shelf, Pad pad) {
            start(shelf);
            boolean again = false;
            for (int round = 0; !again && round <= MOST_WORDS; round++) {
                int rank = Ranks.rankOf(packed, shelf.books);
                again = cameAt.get(rank) != NONE;
                if (again) {
                    lead = cameAt.get(rank);
                    cycle = round - lead;
                    cycleCosts = paid - paidThen.get(rank);
                } else {
                    cameAt.put(rank, round);
                    paidThen.put(rank, paid);
                    leastDisorder = Math.min(leastDisorder, Spines.disorder(packed, shelf.falling));
                    goRound(shelf, pad);
                }
            }
        }

        private void start(Shelf shelf) {
            for (int rank = 0; rank < Ranks.wordsOf(shelf.books); rank++) {
                cameAt.put(rank, NONE);
            }
            packed = shelf.packed;
            paid = 0;
            leastDisorder = Spines.disorder(packed, shelf.falling);
        }

        private void goRound(Shelf shelf, Pad pad) {
            for (int step = 0; step < pad.steps(); step++) {
                int move = pad.moveAt(step);
                if (Spines.reason(packed, shelf.stuck, move) == 0) {
                    paid += Spines.price(packed, shelf.weights, move);
                    packed = Spines.after(packed, move);
                }
            }
        }
    }
}
