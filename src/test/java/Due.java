/** Counts answers that are not the ones that are due, and prints the first of them. */
final class Due {
    private static final int MOST_PRINTED = 40;

    private final String test;
    private int wrong = 0;

    Due(String test) {
        this.test = test;
    }

    void is(String call, long got, long due) {
        if (got == due) return;
        wrong++;
        if (wrong <= MOST_PRINTED) System.out.println(test + ": " + call + " answered " + got + ", due is " + due);
    }

    void is(String call, boolean got, boolean due) {
        is(call, got ? 1 : 0, due ? 1 : 0);
    }

    /** An answer with STATUS 0 behind it. */
    void fine(String call, PigeonPost post, long got, long due) {
        is(call, got, due);
        is(call + ", status()", post.status(), 0);
    }

    void fine(String call, PigeonPost post, boolean got) {
        fine(call, post, got ? 1 : 0, 1);
    }

    /** NONE, with this STATUS behind it. */
    void none(String call, PigeonPost post, long got, int status) {
        is(call, got, PigeonPost.NONE);
        is(call + ", status()", post.status(), status);
    }

    /** false, with this STATUS behind it. */
    void not(String call, PigeonPost post, boolean got, int status) {
        is(call, got, false);
        is(call + ", status()", post.status(), status);
    }

    void fraction(String call, PigeonPost post, long top, long bottom) {
        is(call + ", top()", post.top(), top);
        is(call + ", bottom()", post.bottom(), bottom);
    }

    /** Ends the program with 1 if an answer was wrong. */
    void end() {
        if (wrong == 0) return;
        System.out.println(test + ": " + wrong + " answers are not as due");
        System.exit(1);
    }
}
