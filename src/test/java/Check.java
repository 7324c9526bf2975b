/** Compares answers with the ones that are due, and ends the test with exit code 1 if one differs. */
final class Check {
    private static final int TOLD_PER_SENTENCE = 10;
    private static final int LONGEST_MILLIS = 120_000;
    private static final int EXIT_ON_HANG = 3;
    private int wrong = 0;
    private int asked = 0;
    private int sentences = 0;
    private String sentence = "";
    private int wrongBefore = 0;
    private int askedBefore = 0;

    /** From here on the test has its time: a call that doesn't end must not keep the test from failing. */
    Check() {
        Thread watch = new Thread(() -> {
            try {
                Thread.sleep(LONGEST_MILLIS);
            } catch (InterruptedException stopped) {
                return;
            }
            System.out.println("the test does not end");
            Runtime.getRuntime().halt(EXIT_ON_HANG);
        });
        watch.setDaemon(true);
        watch.start();
    }

    /** From here on the answers belong to this sentence of the document, which must have some of its own. */
    void says(String text) {
        endSentence();
        sentence = text;
        sentences++;
        wrongBefore = wrong;
        askedBefore = asked;
    }

    private void endSentence() {
        if (sentences > 0 && asked == askedBefore) {
            tell("nothing was tested");
        }
    }

    void due(String call, long got, long want) {
        asked++;
        if (got != want) {
            tell(call + " answered " + got + ", due is " + want);
        }
    }

    void due(String call, boolean got, boolean want) {
        due(call, got ? 1L : 0L, want ? 1L : 0L);
    }

    void same(String what, String got, String want) {
        asked++;
        if (!got.equals(want)) {
            tell(what + " is\n  " + got + "\ndue is\n  " + want);
        }
    }

    private void tell(String text) {
        if (wrong == wrongBefore && sentences > 0) {
            System.out.println("The document says: " + sentence);
        }
        wrong++;
        if (wrong - wrongBefore <= TOLD_PER_SENTENCE) {
            System.out.println(text);
        }
    }

    void end() {
        endSentence();
        if (asked == 0) {
            System.out.println("nothing was tested");
            System.exit(1);
        }
        if (wrong != 0) {
            System.out.println(wrong + " of " + asked + " answers are not as due");
            System.exit(1);
        }
        String of = sentences > 0 ? " of " + sentences + " sentences" : "";
        System.out.println("all " + asked + " answers" + of + " are as due");
    }
}
