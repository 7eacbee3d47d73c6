/** Counts the answers that are not the ones that are due, and ends the program with 1 if there was one. */
final class Due {
    private static int wrong = 0;
    private static int looked = 0;
    private static int sentences = 0;
    private static int lookedBefore = 0;
    private static String sentence = "";

    private Due() {
    }

    /** The sentence of the document, and its section, that the answers from here on are about. */
    static void says(String section, String words) {
        endSentence();
        sentence = section + ": " + words + ": ";
        sentences++;
        lookedBefore = looked;
    }

    private static void endSentence() {
        if (sentences > 0 && looked == lookedBefore) {
            tell("nothing was looked at");
        }
    }

    private static void tell(String fault) {
        wrong++;
        System.out.println(sentence + fault);
    }

    static void same(String call, long got, long want) {
        looked++;
        if (got != want) {
            tell(call + " answered " + got + ", due is " + want);
        }
    }

    static void same(String call, double got, double want) {
        looked++;
        if (got != want) {
            tell(call + " answered " + got + ", due is " + want);
        }
    }

    static void same(String call, String got, String want) {
        looked++;
        if (!got.equals(want)) {
            tell(call + " answered " + got + ", due is " + want);
        }
    }

    static boolean anyWrong() {
        return wrong != 0;
    }

    static void end() {
        endSentence();
        String of = sentences > 0 ? " to " + sentences + " sentences" : "";
        System.out.println(looked + " answers" + of + ", " + wrong + " not as due");
        if (wrong != 0 || looked == 0) {
            System.exit(1);
        }
    }
}
