/** Compares answers with those that are due, and says where they differ. */
final class Due {
    private String name = "";
    private int asked = 0;
    private int wrong = 0;

    /** From here on, what is not as due is told under this name. */
    void begin(String nameOfCase) {
        name = nameOfCase;
    }

    /** An answer that a promise of the document makes due. */
    void due(int promise, int got, int want) {
        compare("promise " + promise, got, want);
    }

    /** An answer that the case which has begun makes due. */
    void due(int got, int want) {
        compare(name, got, want);
    }

    private void compare(String what, int got, int want) {
        asked++;
        if (got != want) {
            wrong++;
            StackTraceElement caller = new Throwable().getStackTrace()[2];
            System.out.println(caller.getFileName() + ":" + caller.getLineNumber() + ": " + what
                + " answered " + got + ", due is " + want);
        }
    }

    /** Something that has to hold, with words for when it does not. */
    void holds(boolean holds, String otherwise) {
        asked++;
        if (!holds) {
            wrong++;
            System.out.println(name.isEmpty() ? otherwise : name + ": " + otherwise);
        }
    }

    int asked() {
        return asked;
    }

    int wrong() {
        return wrong;
    }

    /** Ends the test: with exit code 1, if an answer was wrong or none was asked for. */
    void end() {
        System.out.println(asked + " answers asked, " + wrong + " not as due");
        if (wrong != 0 || asked == 0) {
            System.exit(1);
        }
    }
}
