/** Counts answers that are not as due; a test ends with done(). */
final class Check {
    private int right;
    private int wrong;
    private String sentence = "";

    /** The words of the document that the next answers are due by; DocumentTest holds them against it. */
    void sentence(String words) {
        sentence = words;
    }

    void due(String call, long got, long want) {
        due(call, "" + got, "" + want);
    }

    void due(String call, String got, String want) {
        if (got.equals(want)) {
            right++;
            return;
        }
        wrong++;
        System.out.println((sentence.isEmpty() ? "" : "\"" + sentence + "\": ") + call
                + " answered [" + got + "], due is [" + want + "]");
    }

    void done() {
        System.out.println(right + " answers as due, " + wrong + " not as due");
        if (wrong != 0 || right == 0) {
            System.exit(1);
        }
    }
}
