/** What a test has to say: the sentence of the document that it is at, and each answer that is not as due. */
final class Report {
    private static final int MOST_PRINTED = 20;

    private static String sentence = "";
    private static int sentences = 0;
    private static int answers = 0;
    private static int wrong = 0;

    private Report() {
    }

    /** The words of the document that the calls behind are a test of. */
    static void says(String words) {
        sentence = words;
        sentences++;
    }

    static void due(String call, long got, long want) {
        answers++;
        if (got != want) {
            fault(call + " answered " + got + ", due is " + want);
        }
    }

    static void same(String call, String got, String want) {
        answers++;
        if (!got.equals(want)) {
            fault(call + " changed the state\n    from " + want + "\n    to   " + got);
        }
    }

    static void fault(String text) {
        wrong++;
        if (wrong <= MOST_PRINTED) {
            System.out.println("'" + sentence + "': " + text);
        }
    }

    static void end() {
        System.out.println(sentences + " sentences, " + answers + " answers, " + wrong + " not as due");
        if (wrong != 0) {
            System.exit(1);
        }
    }
}
