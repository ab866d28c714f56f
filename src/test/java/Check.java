/** Compares answers with those that are due, and counts both kinds. */
final class Check {
    private int right = 0;
    private int wrong = 0;
    private String about = "";

    /** Says what the next answers are about. */
    void about(String what) {
        about = what;
    }

    void due(String call, long got, long want) {
        if (got == want) {
            right++;
            return;
        }
        wrong++;
        System.out.println(about + ": " + call + " answered " + got + ", due is " + want);
    }

    void holds(String what, boolean condition) {
        due(what, condition ? 1 : 0, 1);
    }

    int wrongSoFar() {
        return wrong;
    }

    /** Prints the counts, and ends the program with exit code 1 if an answer was wrong. */
    void end(String name) {
        System.out.println(name + ": " + right + " answers right, " + wrong + " wrong");
        if (wrong != 0) {
            System.exit(1);
        }
    }

    /** Types a whole text into an emptied one. */
    static void write(ShadowTag tag, String text) {
        tag.clearText();
        for (char sign : text.toCharArray()) {
            tag.type(sign);
        }
    }

    static int perform(ShadowTag tag, String text) {
        write(tag, text);
        return tag.perform();
    }
}
