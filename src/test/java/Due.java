/** Compares answers with those that are due, and says where they differ. */
final class Due {
    private int asked = 0;
    private int wrong = 0;

    /** An answer that a promise of the document makes due. */
    void due(int promise, int got, int want) {
        asked++;
        if (got != want) {
            wrong++;
            StackTraceElement caller = new Throwable().getStackTrace()[1];
            System.out.println(caller.getFileName() + ":" + caller.getLineNumber() + ": promise " + promise
                + " answered " + got + ", due is " + want);
        }
    }

    /** Something that has to hold, with words for when it does not. */
    void holds(boolean holds, String otherwise) {
        asked++;
        if (!holds) {
            wrong++;
            System.out.println(otherwise);
        }
    }

    /** Ends the test: with exit code 1, if an answer was wrong or none was asked for. */
    void end() {
        System.out.println(asked + " answers asked, " + wrong + " not as due");
        if (wrong != 0 || asked == 0) {
            System.exit(1);
        }
    }
}
