import java.util.Random;

/** Long runs of calls, right and wrong ones, each answer beside that of the naive shelf. */
public final class NaiveTest {
    private static final int[] ODD = {-1, 7, 6, 5, 26, 25, 10, 0, 19, 18, Integer.MAX_VALUE, Integer.MIN_VALUE, 2520, -2};

    private final Random random;
    private final ShelfSpines x = new ShelfSpines();
    private final NaiveShelf y = new NaiveShelf();
    private final String run;
    private final boolean few;
    private String call = "";
    private int calls = 0;

    private NaiveTest(int seed) {
        random = new Random(seed);
        run = "run " + seed + ", call ";
        few = seed % 3 != 0;
    }

    private int below(int bound) {
        return random.nextInt(12) == 0 ? ODD[random.nextInt(ODD.length)] : random.nextInt(bound);
    }

    private void due(String name, long got, long want) {
        calls++;
        Due.same(run + calls + ": " + name, got, want);
    }

    private void add(int letter, int weight, int place) {
        due("add(" + letter + ", " + weight + ", " + place + ")", x.add(letter, weight, place), y.add(letter, weight, place));
    }

    private void addSome() {
        int books = random.nextInt(few ? 4 : 6);
        while (y.now.weights.size() < books) {
            add(random.nextInt(random.nextBoolean() ? 7 : 26), 1 + random.nextInt(9), random.nextInt(7));
        }
    }

    private void change() {
        int a = below(7);
        int b = below(6);
        boolean flag = random.nextBoolean();
        switch (random.nextInt(14)) {
            case 0:
            case 1:
                if (few && y.now.weights.size() >= 3 && random.nextInt(20) != 0) {
                    break;
                }
                add(random.nextBoolean() ? below(26) : random.nextInt(7), 1 + below(9), a);
                break;
            case 2:
                if (random.nextInt(3) == 0) {
                    due("remove(" + a + ")", x.remove(a), y.remove(a));
                }
                break;
            case 3:
                due("stick(" + a + ")", x.stick(a), y.stick(a));
                break;
            case 4:
            case 5:
                due("pull(" + a + ")", x.pull(a), y.pull(a));
                break;
            case 6:
            case 7:
                due("push(" + b + ", " + flag + ")", x.push(b, flag), y.push(b, flag));
                break;
            case 8:
                int what = below(2);
                int value = below(2);
                due("set(" + what + ", " + value + ")", x.set(what, value), y.set(what, value));
                break;
            case 9:
                due("arrange()", x.arrange(), y.arrange());
                break;
            case 10:
                due("run()", x.run(), y.run());
                break;
            case 11:
                due("undo()", x.undo(), y.undo());
                break;
            case 12:
                due("save()", x.save(), y.save());
                break;
            default:
                due("restore()", x.restore(), y.restore());
        }
    }

    private void type(String text) {
        for (int i = 0; i < text.length(); i++) {
            due("append(" + (int) text.charAt(i) + ")", x.append(text.charAt(i)), y.append(text.charAt(i)));
        }
    }

    private String program(int steps) {
        StringBuilder text = new StringBuilder();
        for (int step = 0; step < steps; step++) {
            int kind = random.nextInt(3);
            text.append("prl".charAt(kind)).append(random.nextInt(kind == 0 ? 7 : 6));
        }
        return text.toString();
    }

    private String spoilt(String text) {
        if (random.nextInt(3) != 0) {
            return text;
        }
        String signs = ".prl0567/:abcz" + y.letters();
        int place = random.nextInt(text.length() + 1);
        char sign = signs.charAt(random.nextInt(signs.length()));
        switch (random.nextInt(3)) {
            case 0:
                return text.substring(0, place) + sign + text.substring(place);
            case 1:
                return text.substring(0, Math.min(place, 6)) + sign;
            default:
                return text.substring(0, place);
        }
    }

    private void text() {
        switch (random.nextInt(6)) {
            case 0:
                due("clear()", x.clear(), y.clear());
                break;
            case 1:
                int code = random.nextInt(3) == 0 ? ODD[random.nextInt(ODD.length)] : 31 + random.nextInt(98);
                due("append(" + code + ")", x.append(code), y.append(code));
                break;
            case 2:
            case 3:
                due("clear()", x.clear(), y.clear());
                type(spoilt(y.words().get(random.nextInt(y.words().size()))));
                break;
            default:
                due("clear()", x.clear(), y.clear());
                type(spoilt(program(1 + random.nextInt(random.nextInt(8) == 0 ? 31 : 6))));
        }
        for (int way = -1; way <= 2; way++) {
            due("fault(" + way + ")", x.fault(way), y.fault(way));
        }
    }

    private void look() {
        int place = below(7);
        int what = below(6);
        int move = below(19);
        int rank = random.nextInt(8) == 0 ? y.words().size() - random.nextInt(2) : below(y.words().size());
        due("at(" + place + ", " + what + ")", x.at(place, what), y.at(place, what));
        due("whyNot(" + move + ")", x.whyNot(move), y.whyNot(move));
        due("cost(" + move + ")", x.cost(move), y.cost(move));
        due("leads(" + move + ")", x.leads(move), y.leads(move));
        due("word(" + rank + ", " + place + ")", x.word(rank, place), y.word(rank, place));
        int number = below(16);
        due("count(" + number + ")", x.count(number), y.count(number));
    }

    private void far() {
        int what = below(3);
        int rank = random.nextInt(8) == 0 ? y.words().size() - random.nextInt(2) : below(y.words().size());
        boolean byCost = random.nextBoolean();
        int step = random.nextInt(10) == 0 ? below(19) : random.nextInt(6);
        int which = below(4);
        int of = below(5);
        due("least(" + rank + ", " + what + ")", x.least(rank, what), y.least(rank, what));
        due("plan(" + byCost + ", " + step + ")", x.plan(byCost, step), y.plan(byCost, step));
        due("round(" + which + ")", x.round(which), y.round(which));
        due("loosen()", x.loosen(), y.loosen());
        due("all(" + of + ")", x.all(of), y.all(of));
        calls++;
        Due.same(run + calls + ": mean()", x.mean(), y.mean());
    }

    /** Some of what can be seen behind a change or an error. */
    private void lookBehind() {
        due("count(5)", x.count(5), y.count(5));
        due("count(15)", x.count(15), y.count(15));
        int what = random.nextInt(16);
        due("count(" + what + ")", x.count(what), y.count(what));
        int place = random.nextInt(7);
        int property = random.nextInt(6);
        due("at(" + place + ", " + property + ")", x.at(place, property), y.at(place, property));
        int move = random.nextInt(19);
        due("cost(" + move + ")", x.cost(move), y.cost(move));
    }

    /** All that can be seen of the shelf, by 96 calls. */
    private void lookAtAll() {
        for (int what = 0; what < 16; what++) {
            due("count(" + what + ")", x.count(what), y.count(what));
        }
        for (int place = 0; place < 7; place++) {
            for (int what = 0; what < 6; what++) {
                due("at(" + place + ", " + what + ")", x.at(place, what), y.at(place, what));
            }
        }
        for (int move = 0; move < 19; move++) {
            due("leads(" + move + ")", x.leads(move), y.leads(move));
            due("cost(" + move + ")", x.cost(move), y.cost(move));
        }
    }

    /** As many calls as are promised: 512 at most. */
    private void walk() {
        addSome();
        // A text takes up to 67 calls, the last look 96.
        while (calls <= 512 - 67 - 96 && !Due.anyWrong()) {
            switch (random.nextInt(8)) {
                case 0:
                    text();
                    break;
                case 1:
                    look();
                    break;
                case 2:
                    far();
                    break;
                default:
                    change();
                    lookBehind();
            }
        }
        lookAtAll();
    }

    public static void main(String[] args) {
        int runs = args.length > 0 ? Integer.parseInt(args[0]) : 400;
        for (int seed = 0; seed < runs && !Due.anyWrong(); seed++) {
            new NaiveTest(seed).walk();
        }
        Due.end();
    }
}
