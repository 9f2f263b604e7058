/** Counts right and wrong answers of one test class, and tells the wrong ones. */
final class Due {
    private final String test;
    private int right = 0;
    private int wrong = 0;

    Due(String test) {
        this.test = test;
    }

    void is(String call, long got, long want) {
        if (got == want) {
            right++;
        } else {
            wrong++;
            System.out.println(test + ": " + call + " answered " + got + ", due is " + want);
        }
    }

    void holds(String what, boolean condition) {
        is(what, condition ? 1 : 0, 1);
    }

    int wrong() {
        return wrong;
    }

    void finish() {
        System.out.println(test + ": " + right + " passed, " + wrong + " failed");
        if (wrong != 0) {
            System.exit(1);
        }
    }

    /** Appends a text, character by character, without looking at the answers. */
    static void append(DisambiguationBench bench, String text) {
        for (int i = 0; i < text.length(); i++) {
            bench.append(text.charAt(i));
        }
    }

    static DisambiguationBench loaded(String text) {
        DisambiguationBench bench = new DisambiguationBench();
        append(bench, text);
        if (bench.load() < 0) {
            throw new IllegalStateException("the test's own setup is malformed: " + text);
        }
        return bench;
    }
}
