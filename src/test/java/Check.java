/** Compares answers with those that are due, prints the ones that differ, and ends the test. */
final class Check {
    private final String test;
    private String sentence = "";
    private int sentences = 0;
    private int lookedBefore = 0;
    private int looked = 0;
    private int wrong = 0;

    Check(String test) {
        this.test = test;
    }

    /** The document's words that the looks from here on hold the class to. */
    void sentence(String words) {
        endSentence();
        sentence = " \"" + words + "\"";
        lookedBefore = looked;
        sentences++;
    }

    void due(String call, long got, long want) {
        looked++;
        if (got != want) {
            wrong++;
            System.out.println(test + sentence + ": " + call + " answered " + got + ", due is " + want);
        }
    }

    void holds(String what, boolean held) {
        due(what, held ? 1 : 0, 1);
    }

    void same(String what, String got, String want) {
        looked++;
        if (!got.equals(want)) {
            wrong++;
            System.out.println(test + sentence + ": " + what + " is\n  " + got + "\ndue is\n  " + want);
        }
    }

    void finish() {
        endSentence();
        String ofSentences = sentences > 0 ? " for " + sentences + " sentences" : "";
        System.out.println(test + ": " + looked + " looked at" + ofSentences + ", " + wrong + " wrong");
        if (wrong != 0 || looked == 0) {
            System.exit(1);
        }
    }

    // A sentence without a look would seem to be tested.
    private void endSentence() {
        if (sentences > 0 && looked == lookedBefore) {
            wrong++;
            System.out.println(test + sentence + ": nothing was looked at");
        }
    }
}
