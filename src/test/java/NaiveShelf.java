import java.util.ArrayList;
import java.util.Arrays;
import java.util.HashMap;
import java.util.HashSet;
import java.util.LinkedHashMap;
import java.util.List;
import java.util.Map;
import java.util.Set;
import java.util.TreeSet;

/** The document once more, as slowly and plainly as can be: words are strings, and all of them are tried. */
final class NaiveShelf {
    static final class State {
        char[] word = ".......".toCharArray();
        final Map<Character, Integer> weights = new HashMap<>();
        final Set<Character> stuck = new HashSet<>();
        int[] settings = new int[2];
        int made, spent, refused;

        State copy() {
            State other = new State();
            other.word = word.clone();
            other.weights.putAll(weights);
            other.stuck.addAll(stuck);
            other.settings = settings.clone();
            other.made = made;
            other.spent = spent;
            other.refused = refused;
            return other;
        }
    }

    private static final Map<String, Map<String, Integer>> KNOWN = new LinkedHashMap<>() {
        @Override
        protected boolean removeEldestEntry(Map.Entry<String, Map<String, Integer>> eldest) {
            return size() > 40;
        }
    };
    private static final Map<String, List<String>> WORDS = new HashMap<>();

    State now = new State();
    State saved = null;
    final List<State> history = new ArrayList<>();
    final StringBuilder pad = new StringBuilder();

    private void record() {
        history.add(now.copy());
        if (history.size() == 5) {
            history.remove(0);
        }
    }

    private static boolean in(int x, int low, int high) {
        return low <= x && x <= high;
    }

    // ---- words

    String letters() {
        StringBuilder found = new StringBuilder();
        for (char c = 'a'; c <= 'z'; c++) {
            if (now.weights.containsKey(c)) {
                found.append(c);
            }
        }
        return found.toString();
    }

    List<String> words() {
        return WORDS.computeIfAbsent(letters(), letters -> {
            TreeSet<String> found = new TreeSet<>();
            spell("", letters, found);
            return new ArrayList<>(found);
        });
    }

    private static void spell(String head, String left, Set<String> found) {
        if (head.length() == 7) {
            if (left.isEmpty()) {
                found.add(head);
            }
            return;
        }
        spell(head + ".", left, found);
        for (int i = 0; i < left.length(); i++) {
            spell(head + left.charAt(i), left.substring(0, i) + left.substring(i + 1), found);
        }
    }

    int rank(String word) {
        return words().indexOf(word);
    }

    String word() {
        return new String(now.word);
    }

    // ---- moves, on any word

    static int nearest(String word, int place, boolean itself) {
        int best = -1;
        for (int gap = 0; gap < 7; gap++) {
            if (word.charAt(gap) == '.' && (itself || gap != place)
                    && (best < 0 || Math.abs(gap - place) < Math.abs(best - place))) {
                best = gap;
            }
        }
        return best;
    }

    int reason(String word, int move, Set<Character> stuck) {
        if (move <= 6) {
            return word.charAt(move) == '.' ? 1 : stuck.contains(word.charAt(move)) ? 2 : 0;
        }
        int place = (move - 7) % 6;
        if (word.charAt(place) == '.' || word.charAt(place + 1) == '.') {
            return 3;
        }
        int to = move <= 12 ? place + 2 : place - 1;
        return to < 0 || to > 6 || word.charAt(to) != '.' ? 4 : 0;
    }

    static String after(String word, int move) {
        char[] signs = word.toCharArray();
        if (move <= 6) {
            signs[nearest(word, move, false)] = word.charAt(move);
            signs[move] = '.';
            return new String(signs);
        }
        int place = (move - 7) % 6;
        int by = move <= 12 ? 1 : -1;
        signs[place] = '.';
        signs[place + 1] = '.';
        signs[place + by] = word.charAt(place);
        signs[place + 1 + by] = word.charAt(place + 1);
        return new String(signs);
    }

    int price(String word, int move) {
        if (move <= 6) {
            return now.weights.get(word.charAt(move));
        }
        int place = (move - 7) % 6;
        return Math.max(now.weights.get(word.charAt(place)), now.weights.get(word.charAt(place + 1)));
    }

    // ---- order

    int wrongAt(String word, int place) {
        int wrong = 0;
        for (int other = 0; other < 7; other++) {
            char a = word.charAt(Math.min(place, other));
            char b = word.charAt(Math.max(place, other));
            if (other != place && a != '.' && b != '.' && (now.settings[0] == 1 ? a < b : a > b)) {
                wrong++;
            }
        }
        return wrong;
    }

    int disorder(String word) {
        int twice = 0;
        for (int place = 0; place < 7; place++) {
            twice += word.charAt(place) == '.' ? 0 : wrongAt(word, place);
        }
        return twice / 2;
    }

    boolean inOrder(String word) {
        if (now.settings[1] == 1 && word.replaceAll("\\.+$", "").contains(".")) {
            return false;
        }
        return disorder(word) == 0;
    }

    // ---- how far

    /** By word what it has to go; words that can never be put in order are missing. */
    Map<String, Integer> ways(boolean byCost, Set<Character> stuck) {
        String key = letters() + byCost + new TreeSet<>(stuck) + Arrays.toString(now.settings)
                + (byCost ? new java.util.TreeMap<>(now.weights).toString() : "");
        Map<String, Integer> ways = KNOWN.get(key);
        if (ways == null) {
            ways = findWays(byCost, stuck);
            KNOWN.put(key, ways);
        }
        return ways;
    }

    private Map<String, Integer> findWays(boolean byCost, Set<Character> stuck) {
        Map<String, Integer> ways = new HashMap<>();
        List<String> froms = new ArrayList<>();
        List<String> tos = new ArrayList<>();
        List<Integer> prices = new ArrayList<>();
        for (String word : words()) {
            if (inOrder(word)) {
                ways.put(word, 0);
            }
            for (int move = 0; move <= 18; move++) {
                if (reason(word, move, stuck) == 0) {
                    froms.add(word);
                    tos.add(after(word, move));
                    prices.add(byCost ? price(word, move) : 1);
                }
            }
        }
        boolean changed = true;
        while (changed) {
            changed = false;
            for (int i = 0; i < froms.size(); i++) {
                Integer behind = ways.get(tos.get(i));
                Integer known = ways.get(froms.get(i));
                if (behind != null && (known == null || behind + prices.get(i) < known)) {
                    ways.put(froms.get(i), behind + prices.get(i));
                    changed = true;
                }
            }
        }
        return ways;
    }

    // ---- the face

    int add(int letter, int weight, int place) {
        if (!in(letter, 0, 25) || !in(weight, 1, 9) || !in(place, 0, 6)) {
            return -1;
        }
        if (now.weights.containsKey((char) ('a' + letter)) || now.word[place] != '.') {
            return -2;
        }
        if (now.weights.size() == 5) {
            return -3;
        }
        record();
        now.weights.put((char) ('a' + letter), weight);
        now.word[place] = (char) ('a' + letter);
        return now.weights.size();
    }

    int remove(int place) {
        if (!in(place, 0, 6)) {
            return -1;
        }
        if (now.word[place] == '.') {
            return -2;
        }
        record();
        char letter = now.word[place];
        now.word[place] = '.';
        now.weights.remove(letter);
        now.stuck.remove(letter);
        return letter - 'a';
    }

    int stick(int place) {
        if (!in(place, 0, 6)) {
            return -1;
        }
        if (now.word[place] == '.') {
            return -2;
        }
        record();
        if (now.stuck.remove(now.word[place])) {
            return 0;
        }
        now.stuck.add(now.word[place]);
        return 1;
    }

    private int make(int move) {
        int reason = reason(word(), move, now.stuck);
        if (reason != 0) {
            now.refused++;
            return reason;
        }
        now.made++;
        now.spent += price(word(), move);
        now.word = after(word(), move).toCharArray();
        return 0;
    }

    int pull(int place) {
        if (!in(place, 0, 6)) {
            return -1;
        }
        record();
        int to = nearest(word(), place, false);
        int reason = make(place);
        return reason == 0 ? 10 + to : reason;
    }

    int push(int place, boolean toRight) {
        if (!in(place, 0, 5)) {
            return -1;
        }
        record();
        return make(place + (toRight ? 7 : 13));
    }

    int set(int what, int value) {
        if (!in(what, 0, 1) || !in(value, 0, 1)) {
            return -1;
        }
        record();
        int before = now.settings[what];
        now.settings[what] = value;
        return before;
    }

    int append(int code) {
        if (!in(code, 33, 126)) {
            return -1;
        }
        if (pad.length() == 60) {
            return -3;
        }
        pad.append((char) code);
        return pad.length();
    }

    int clear() {
        int before = pad.length();
        pad.setLength(0);
        return before;
    }

    private boolean begins(int way, String head) {
        if (way == 0) {
            return head.matches("(p[0-6]|[rl][0-5])*[prl]?");
        }
        for (String word : words()) {
            if (word.startsWith(head)) {
                return true;
            }
        }
        return false;
    }

    int fault(int way) {
        if (!in(way, 0, 1)) {
            return -1;
        }
        for (int i = 0; i < pad.length(); i++) {
            if (!begins(way, pad.substring(0, i + 1))) {
                return i;
            }
        }
        boolean complete = way == 0 ? pad.toString().matches("(p[0-6]|[rl][0-5])+") : rank(pad.toString()) >= 0;
        return complete ? -4 : pad.length();
    }

    int arrange() {
        if (fault(1) != -4) {
            return -2;
        }
        record();
        now.word = pad.toString().toCharArray();
        pad.setLength(0);
        return rank(word());
    }

    private List<Integer> program() {
        List<Integer> moves = new ArrayList<>();
        for (int i = 0; i < pad.length(); i += 2) {
            int digit = pad.charAt(i + 1) - '0';
            moves.add(pad.charAt(i) == 'p' ? digit : pad.charAt(i) == 'r' ? 7 + digit : 13 + digit);
        }
        return moves;
    }

    int run() {
        if (fault(0) != -4) {
            return -2;
        }
        record();
        int made = 0;
        for (int move : program()) {
            made += make(move) == 0 ? 1 : 0;
        }
        return made;
    }

    int at(int place, int what) {
        if (!in(place, 0, 6) || !in(what, 0, 5)) {
            return -1;
        }
        if (what == 5) {
            return nearest(word(), place, true);
        }
        char sign = now.word[place];
        if (sign == '.') {
            return -4;
        }
        switch (what) {
            case 0: return sign - 'a';
            case 1: return now.weights.get(sign);
            case 2: return now.stuck.contains(sign) ? 1 : 0;
            case 3: return nearest(word(), place, false);
            default: return wrongAt(word(), place);
        }
    }

    int whyNot(int move) {
        return in(move, 0, 18) ? reason(word(), move, now.stuck) : -1;
    }

    int cost(int move) {
        int reason = whyNot(move);
        return reason == -1 ? -1 : reason > 0 ? -2 : price(word(), move);
    }

    int leads(int move) {
        int reason = whyNot(move);
        return reason == -1 ? -1 : reason > 0 ? -2 : rank(after(word(), move));
    }

    int word(int rank, int place) {
        if (!in(rank, 0, words().size() - 1) || !in(place, 0, 6)) {
            return -1;
        }
        char sign = words().get(rank).charAt(place);
        return sign == '.' ? -4 : sign - 'a';
    }

    int count(int what) {
        switch (what) {
            case 0: return now.weights.size();
            case 1: return now.stuck.size();
            case 2: return now.weights.values().stream().mapToInt(w -> w).sum();
            case 3: return inOrder(word()) ? 1 : 0;
            case 4: return disorder(word());
            case 5: return rank(word());
            case 6: return words().size();
            case 7: return (int) words().stream().filter(this::inOrder).count();
            case 8: return now.made;
            case 9: return now.spent;
            case 10: return now.refused;
            case 11:
                int free = 0;
                for (int move = 0; move <= 18; move++) {
                    free += whyNot(move) == 0 ? 1 : 0;
                }
                return free;
            case 12: return now.settings[0];
            case 13: return now.settings[1];
            case 14: return pad.length();
            case 15: return history.size();
            default: return -1;
        }
    }

    int least(int rank, int what) {
        if (!in(rank, 0, words().size() - 1) || !in(what, 0, 2)) {
            return -1;
        }
        return ways(what > 0, now.stuck).getOrDefault(words().get(rank), -4);
    }

    int plan(boolean byCost, int step) {
        if (step < 0) {
            return -1;
        }
        Map<String, Integer> ways = ways(byCost, now.stuck);
        String word = word();
        if (!ways.containsKey(word)) {
            return -4;
        }
        for (int i = 0; ways.get(word) != 0; i++) {
            int move = 0;
            while (reason(word, move, now.stuck) != 0 || !ways.containsKey(after(word, move))
                    || ways.get(after(word, move)) + (byCost ? price(word, move) : 1) != ways.get(word)) {
                move++;
            }
            if (i == step) {
                return move;
            }
            word = after(word, move);
        }
        return -4;
    }

    int all(int what) {
        Map<String, Integer> ways = ways(false, now.stuck);
        int greatest = ways.values().stream().mapToInt(w -> w).max().getAsInt();
        switch (what) {
            case 0: return ways.size();
            case 1: return greatest;
            case 2: return ways(true, now.stuck).values().stream().mapToInt(w -> w).max().getAsInt();
            case 3:
                int rank = 0;
                while (ways.getOrDefault(words().get(rank), -4) != greatest) {
                    rank++;
                }
                return rank;
            case 4: return reach();
            default: return -1;
        }
    }

    private int reach() {
        Set<String> met = new HashSet<>(List.of(word()));
        List<String> open = new ArrayList<>(met);
        while (!open.isEmpty()) {
            String word = open.remove(open.size() - 1);
            for (int move = 0; move <= 18; move++) {
                if (reason(word, move, now.stuck) == 0 && met.add(after(word, move))) {
                    open.add(after(word, move));
                }
            }
        }
        return met.size();
    }

    double mean() {
        Map<String, Integer> ways = ways(false, now.stuck);
        long sum = 0;
        for (int way : ways.values()) {
            sum += way;
        }
        return (double) sum / ways.size();
    }

    int round(int what) {
        if (!in(what, 0, 3)) {
            return -1;
        }
        if (fault(0) != -4) {
            return -2;
        }
        List<String> ahead = new ArrayList<>();
        List<Integer> costs = new ArrayList<>();
        String word = word();
        while (!ahead.contains(word)) {
            ahead.add(word);
            int cost = 0;
            for (int move : program()) {
                if (reason(word, move, now.stuck) == 0) {
                    cost += price(word, move);
                    word = after(word, move);
                }
            }
            costs.add(cost);
        }
        int lead = ahead.indexOf(word);
        switch (what) {
            case 0: return lead;
            case 1: return ahead.size() - lead;
            case 2: return costs.subList(lead, costs.size()).stream().mapToInt(c -> c).sum();
            default: return ahead.stream().mapToInt(this::disorder).min().getAsInt();
        }
    }

    int loosen() {
        int best = -4;
        int bestWay = Integer.MAX_VALUE;
        for (int place = 6; place >= 0; place--) {
            if (now.stuck.contains(now.word[place])) {
                Set<Character> others = new HashSet<>(now.stuck);
                others.remove(now.word[place]);
                int way = ways(false, others).getOrDefault(word(), Integer.MAX_VALUE);
                if (way <= bestWay) {
                    best = place;
                    bestWay = way;
                }
            }
        }
        return best;
    }

    int undo() {
        if (history.isEmpty()) {
            return -2;
        }
        now = history.remove(history.size() - 1);
        return history.size();
    }

    int save() {
        saved = now.copy();
        return rank(word());
    }

    int restore() {
        if (saved == null) {
            return -2;
        }
        record();
        now = saved.copy();
        return rank(word());
    }
}
