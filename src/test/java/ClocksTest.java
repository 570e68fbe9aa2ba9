/** Promises 33 and 34. */
public final class ClocksTest {
    private static final Due due = new Due("ClocksTest");

    public static void main(String[] args) {
        readingRefused();
        mostReadings();
        right();
        rightByProportion();
        rightRefused();
        due.end();
    }

    private static void readingRefused() {
        PigeonPost post = Posts.withTowns(2);
        due.fine("reading(0, 50, 70)", post, post.reading(0, 50, 70));
        due.not("reading(2, 60, 80)", post, post.reading(2, 60, 80), 1);
        due.not("reading(-1, 60, 80)", post, post.reading(-1, 60, 80), 1);
        due.not("minute -1", post, post.reading(0, -1, 80), 1);
        due.not("minute 100001", post, post.reading(0, 100001, 80), 1);
        due.not("told -1, gone", post, post.reading(0, 49, -1), 1);
        due.not("told 200001, gone", post, post.reading(0, 49, 200001), 1);
        due.not("gone, ahead of not above", post, post.reading(0, 49, 60), 2);
        due.not("the same minute", post, post.reading(0, 50, 80), 1);
        due.not("the same number", post, post.reading(0, 60, 70), 1);
        due.not("a lesser number", post, post.reading(0, 60, 69), 1);
        due.fine("another clock, the same minute", post, post.reading(1, 50, 0));
        due.fine("one more", post, post.reading(0, 51, 71));
        due.not("another clock, gone", post, post.reading(1, 50, 5), 2);
        due.fine("the greatest", post, post.reading(1, 100000, 200000));
    }

    private static void mostReadings() {
        PigeonPost post = Posts.withTowns(2);
        for (int i = 0; i < 10; i++) due.fine("reading", post, post.reading(0, i, 2 * i));
        due.not("an 11th, not above", post, post.reading(0, 10, 18), 1);
        due.not("an 11th", post, post.reading(0, 10, 20), 5);
        due.fine("of another clock, the minute stays", post, post.reading(1, 9, 20));
        due.fine("right(0, 17)", post, post.right(0, 17), 1);
        due.fraction("right(0, 17)", post, 17, 2);
        due.fine("right(0, 21)", post, post.right(0, 21), 1);
        due.fraction("right(0, 21)", post, 12, 1);
    }

    private static void right(String call, PigeonPost post, int told, long top, long bottom) {
        due.fine(call, post, post.right(0, told), Long.signum(top));
        due.fraction(call, post, top, bottom);
    }

    private static void right() {
        PigeonPost post = Posts.withTowns(1);
        post.reading(0, 100, 1000);
        right("at it", post, 1000, 100, 1);
        right("ahead", post, 901, 1, 1);
        right("at 0", post, 900, 0, 1);
        right("below 0", post, 899, -1, 1);
        right("the first number", post, 0, -900, 1);
        right("behind", post, 1001, 101, 1);
        right("the last number", post, 200000, 199100, 1);
    }

    private static void rightByProportion() {
        PigeonPost post = Posts.withTowns(1);
        post.reading(0, 10, 100);
        post.reading(0, 20, 106);
        post.reading(0, 50, 126);
        right("ahead of the first", post, 99, 9, 1);
        right("ahead of the first, below 0", post, 80, -10, 1);
        right("at the first", post, 100, 10, 1);
        right("between", post, 101, 35, 3);
        right("half way", post, 103, 15, 1);
        right("at the second", post, 106, 20, 1);
        right("behind the second", post, 107, 43, 2);
        right("at the last", post, 126, 50, 1);
        right("behind the last", post, 127, 51, 1);
        PigeonPost far = Posts.withTowns(1);
        far.reading(0, 0, 0);
        right("at 0", far, 0, 0, 1);
        far.reading(0, 99999, 200000);
        right("far", far, 199999, 99999L * 199999, 200000);
        right("a number above 0", far, 1, 99999, 200000);
    }

    private static void rightRefused() {
        PigeonPost post = Posts.withTowns(2);
        due.none("right(2, 0)", post, post.right(2, 0), 1);
        due.none("right(-1, 0)", post, post.right(-1, 0), 1);
        due.none("right(0, -1)", post, post.right(0, -1), 1);
        due.none("right(0, 200001)", post, post.right(0, 200001), 1);
        due.none("no READING", post, post.right(0, 200000), 6);
        post.reading(0, 7, 7);
        due.none("no READING of the other", post, post.right(1, 7), 6);
        due.fraction("no FRACTION told", post, 0, 1);
    }
}
