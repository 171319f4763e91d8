/** Counts and prints the answers that are not as due; a test ends with exit code 1 if there was one. */
final class Checks {
    private int wrong = 0;
    private String sentence = "";

    /** The document's words that the checks from here on are about; printed with what is wrong. */
    void sentence(String where, String words) {
        sentence = "[" + where + ": " + words + "] ";
    }

    void due(String call, long got, long want) {
        if (got != want) {
            tell(call, "" + got, "" + want);
        }
    }

    void due(String call, boolean got, boolean want) {
        if (got != want) {
            tell(call, "" + got, "" + want);
        }
    }

    void due(String call, String got, String want) {
        if (!got.equals(want)) {
            tell(call, got, want);
        }
    }

    private void tell(String call, String got, String want) {
        wrong++;
        System.out.println(sentence + call + " answered " + got + ", due is " + want);
    }

    void end() {
        if (wrong != 0) {
            System.out.println(wrong + " answers are not as due");
            System.exit(1);
        }
    }
}
