/** Counts the answers that a test looks at, and prints those that are not the ones due. */
final class Due {
    private static int asked = 0;
    private static int wrong = 0;
    private static int askedBefore = 0;
    private static String sentence = "";

    private Due() {
    }

    /** What is asked from here on tests this sentence of the document; the one before has to have been asked for. */
    static void sentence(String words) {
        endSentence();
        sentence = words;
        askedBefore = asked;
    }

    /** One test after the other: what one of them throws is told as wrong, and does not keep the next from running. */
    static void run(Runnable... tests) {
        for (Runnable test : tests) {
            try {
                test.run();
            } catch (RuntimeException e) {
                asked++;
                tell("threw " + e);
            }
        }
    }

    private static void endSentence() {
        if (!sentence.isEmpty() && asked == askedBefore) {
            tell("nothing was asked for");
        }
    }

    private static void tell(String what) {
        wrong++;
        System.out.println(sentence.isEmpty() ? what : "[" + sentence + "] " + what);
    }

    static void due(String call, long got, long want) {
        asked++;
        if (got != want) {
            tell(call + " answered " + got + ", due is " + want);
        }
    }

    static void dueTrue(String what, boolean holds) {
        asked++;
        if (!holds) {
            tell("does not hold: " + what);
        }
    }

    /** Ends the test with exit code 1 if an answer was wrong, or none was asked for. */
    static void end() {
        endSentence();
        System.out.println(asked + " answers, " + wrong + " not as due");
        if (wrong != 0 || asked == 0) {
            System.exit(1);
        }
    }
}
