/** Promises 1 to 8. */
public final class TraysTest {
    private static final Due due = new Due("TraysTest");

    public static void main(String[] args) {
        newObject();
        statusTopBottom();
        tray();
        writeAndRead();
        cut();
        pour();
        pourRefused();
        due.end();
    }

    private static void newObject() {
        PigeonPost post = new PigeonPost();
        due.is("NONE", PigeonPost.NONE, -1);
        due.is("new status()", post.status(), 0);
        due.fraction("new", post, 0, 1);
        for (int tray = 0; tray < 4; tray++) due.none("new read", post, post.read(tray, 0), 3);
        due.none("new bird(0)", post, post.bird(0), 1);
        due.none("new told(0, 0)", post, post.told(0, 0), 1);
        due.none("new waits(0, 0)", post, post.waits(0, 0), 1);
        due.none("new knows(0, 0)", post, post.knows(0, 0), 1);
        due.none("new copies(0, 0)", post, post.copies(0, 0), 1);
        due.none("new leg(0, 0)", post, post.leg(0, 0), 6);
        PigeonPost other = Posts.withTowns(1);
        due.fine("minute 0 at first", other, Posts.letter(other, 0, 1, 0), 0);
    }

    private static void statusTopBottom() {
        PigeonPost post = Posts.withTowns(2);
        post.road(0, 1, 10, 5);
        post.sure(0, 1, 2);
        due.fraction("sure", post, 3, 4);
        due.none("read(0, 0)", post, post.read(0, 0), 3);
        due.fraction("refused calls leave it", post, 3, 4);
        due.is("top() and bottom() have no status", post.status(), 3);
        due.is("status() has none itself", post.status(), 3);
        due.fine("town()", post, post.town(), 2);
        due.none("sure(0, 2, 1)", post, post.sure(0, 2, 1), 6);
        due.none("relay(0, 2, 0, 1)", post, post.relay(0, 2, 0, 1), 6);
        due.none("right(0, 1)", post, post.right(0, 1), 6);
        due.fine("doubles tells no FRACTION", post, post.doubles(0, 1, 1, 1000), 1);
        due.fraction("a FRACTION stays", post, 3, 4);
    }

    private static void tray() {
        PigeonPost post = new PigeonPost();
        due.fine("tray(0, 0, 0)", post, post.tray(0, 0, 0));
        due.none("read(0, 0) of none", post, post.read(0, 0), 4);
        due.fine("tray(3, 3, 60)", post, post.tray(3, 3, 60));
        due.fine("read(3, 59)", post, post.read(3, 59), 0);
        due.none("read(3, 60)", post, post.read(3, 60), 4);
        post.write(3, 59, 7);
        due.not("tray(-1, 0, 1)", post, post.tray(-1, 0, 1), 1);
        due.not("tray(4, 0, 1)", post, post.tray(4, 0, 1), 1);
        due.not("tray(3, -1, 1)", post, post.tray(3, -1, 1), 1);
        due.not("tray(3, 4, 1)", post, post.tray(3, 4, 1), 1);
        due.not("tray(3, 0, -1)", post, post.tray(3, 0, -1), 1);
        due.not("tray(3, 0, 61)", post, post.tray(3, 0, 61), 1);
        due.fine("the row stays", post, post.read(3, 59), 7);
        due.fine("tray(3, 3, 60) again", post, post.tray(3, 3, 60));
        due.fine("a row of 0s again", post, post.read(3, 59), 0);
        post.write(3, 1, 9);
        post.tray(3, 3, 1);
        post.tray(3, 3, 2);
        due.fine("longer again, of 0s", post, post.read(3, 1), 0);
    }

    private static void writeAndRead() {
        PigeonPost post = new PigeonPost();
        due.not("write(-1, 0, 1)", post, post.write(-1, 0, 1), 1);
        due.not("write(4, 0, 1)", post, post.write(4, 0, 1), 1);
        due.not("write(0, 0, 1)", post, post.write(0, 0, 1), 3);
        due.not("write(0, -1, 1)", post, post.write(0, -1, 1), 3);
        post.tray(0, 3, 2);
        due.not("write(0, -1, 1) there", post, post.write(0, -1, 1), 4);
        due.not("write(0, 2, 1)", post, post.write(0, 2, 1), 4);
        due.not("write(0, max, 1)", post, post.write(0, Integer.MAX_VALUE, 1), 4);
        due.fine("write(0, 0, 5)", post, post.write(0, 0, 5));
        due.fine("write(0, 1, -1)", post, post.write(0, 1, -1));
        due.fine("read(0, 0)", post, post.read(0, 0), 5);
        due.fine("read(0, 1)", post, post.read(0, 1), -1);
        due.none("read(-1, 0)", post, post.read(-1, 0), 1);
        due.none("read(4, 0)", post, post.read(4, 0), 1);
        due.none("read(1, 0)", post, post.read(1, 0), 3);
        due.none("read(1, -1)", post, post.read(1, -1), 3);
        due.none("read(0, -1)", post, post.read(0, -1), 4);
        due.none("read(0, 2)", post, post.read(0, 2), 4);
    }

    private static void cut() {
        long v = 0x0123456789ABCDEFL;
        long[] whole = {(byte) v, (short) v, (int) v, v};
        long[] top = {-128, -32768, Integer.MIN_VALUE, 1L << 31 << 1};
        PigeonPost post = new PigeonPost();
        for (int sort = 0; sort < 4; sort++) {
            post.tray(0, sort, 1);
            due.fine("write(0, 0, v)", post, post.write(0, 0, v));
            due.fine("cut to sort " + sort, post, post.read(0, 0), whole[sort]);
            post.write(0, 0, -v);
            due.is("-v cut to sort " + sort, post.read(0, 0), sort == 0 ? (byte) -v
                : sort == 1 ? (short) -v : sort == 2 ? (int) -v : -v);
            int bits = Math.min(32, 8 << sort);
            post.write(0, 0, sort == 3 ? 1L << 32 : 1L << bits - 1);
            due.is("the top bit of sort " + sort, post.read(0, 0), top[sort]);
        }
        post.tray(0, 3, 1);
        post.write(0, 0, Long.MIN_VALUE);
        due.fine("64 bits", post, post.read(0, 0), Long.MIN_VALUE);
    }

    private static void row(String call, PigeonPost post, int tray, long... numbers) {
        for (int i = 0; i < numbers.length; i++) due.fine(call + ", place " + i, post, post.read(tray, i), numbers[i]);
        due.none(call + ", its end", post, post.read(tray, numbers.length), 4);
    }

    private static void pour() {
        PigeonPost post = new PigeonPost();
        Posts.fill(post, 0, 2, 1, 2, 3, 4, 5);
        Posts.fill(post, 1, 2, 11, 12, 13);
        due.fine("pour(0, 1, 1, 0, 2)", post, post.pour(0, 1, 1, 0, 2));
        row("poured", post, 1, 2, 3, 13);
        row("poured from", post, 0, 1, 2, 3, 4, 5);
        due.fine("pour(0, 0, 0, 1, 4)", post, post.pour(0, 0, 0, 1, 4));
        row("its own place, behind", post, 0, 1, 1, 2, 3, 4);
        due.fine("pour(0, 1, 0, 0, 4)", post, post.pour(0, 1, 0, 0, 4));
        row("its own place, ahead", post, 0, 1, 2, 3, 4, 4);
        due.fine("pour(1, 0, 0, 2, 3)", post, post.pour(1, 0, 0, 2, 3));
        row("to the end", post, 0, 1, 2, 2, 3, 13);
        due.fine("pour none at the end", post, post.pour(0, 5, 1, 3, 0));
        row("none poured", post, 1, 2, 3, 13);
    }

    private static void pourRefused() {
        PigeonPost post = new PigeonPost();
        Posts.fill(post, 0, 2, 1, 2, 3);
        Posts.fill(post, 1, 1, 4, 5, 6);
        Posts.fill(post, 3, 2, 7, 8);
        due.not("pour(-1, 0, 0, 0, 1)", post, post.pour(-1, 0, 0, 0, 1), 1);
        due.not("pour(0, 0, 4, 0, 1)", post, post.pour(0, 0, 4, 0, 1), 1);
        due.not("a place below 0, ahead of MISSING", post, post.pour(2, -1, 0, 0, 1), 1);
        due.not("a place below 0", post, post.pour(0, 0, 3, -1, 1), 1);
        due.not("many below 0", post, post.pour(0, 0, 1, 0, -1), 1);
        due.not("MISSING from, ahead of too few", post, post.pour(2, 0, 0, 9, 9), 3);
        due.not("MISSING to", post, post.pour(0, 0, 2, 0, 1), 3);
        due.not("unlike sorts, ahead of too few", post, post.pour(0, 0, 1, 9, 9), 8);
        due.not("too few from", post, post.pour(0, 2, 3, 0, 2), 4);
        due.not("too few to", post, post.pour(0, 0, 3, 1, 2), 4);
        due.not("no place from", post, post.pour(0, 4, 3, 0, 0), 4);
        due.not("no place to", post, post.pour(0, 0, 3, 3, 0), 4);
        due.not("greatest numbers", post, post.pour(0, Integer.MAX_VALUE, 3, 0, Integer.MAX_VALUE), 4);
        due.not("greatest many", post, post.pour(0, 1, 3, 0, Integer.MAX_VALUE), 4);
        due.not("greatest place", post, post.pour(0, 0, 3, Integer.MAX_VALUE, 1), 4);
        row("nothing poured", post, 0, 1, 2, 3);
        row("nothing poured", post, 1, 4, 5, 6);
        row("nothing poured", post, 3, 7, 8);
    }
}
