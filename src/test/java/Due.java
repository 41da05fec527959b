/** Compares answers with those that are due, and ends the run with exit code 1 if one is not. */
final class Due {
    private final String test;
    private int asked = 0;
    private int wrong = 0;

    Due(String test) {
        this.test = test;
    }

    void is(String call, long got, long want) {
        asked++;
        if (got == want) return;
        wrong++;
        if (wrong <= 40) System.out.println(test + ": " + call + " answered " + got + ", due is " + want);
    }

    void holds(String what, boolean so) {
        is(what, so ? 1 : 0, 1);
    }

    void end() {
        System.out.println(test + ": " + asked + " answers, " + wrong + " not as due");
        if (wrong != 0) System.exit(1);
    }

    /** Feeds a text to the tape. */
    static void feed(PostTurns x, String text) {
        for (int i = 0; i < text.length(); i++) x.feed(1, text.charAt(i));
    }

    /** Feeds a text and makes a rule of it. */
    static int rule(PostTurns x, int what, int from, String text) {
        feed(x, text);
        return x.rule(what, from);
    }
}
