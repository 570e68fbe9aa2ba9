/** Promises 26 to 32. */
public final class LettersTest {
    private static final Due due = new Due("LettersTest");

    public static void main(String[] args) {
        letter();
        letterRefused();
        mostLetters();
        fly();
        flyRefused();
        comesWhole();
        comesTorn();
        comesRefused();
        lose();
        knows();
        joined();
        longest();
        minutes();
        due.end();
    }

    private static void letter() {
        PigeonPost post = Posts.withTowns(2);
        Posts.fill(post, 0, 1, 1, 255, 7, 0);
        due.fine("letter(1, 0, 3, 5)", post, post.letter(1, 0, 3, 5), 0);
        post.write(0, 0, 99);
        due.fine("byte 0, as it was", post, post.joined(0, 1, 0), 1);
        due.fine("byte 1", post, post.joined(0, 1, 1), 255);
        due.fine("byte 2", post, post.joined(0, 1, 2), 7);
        due.none("no byte 3", post, post.joined(0, 1, 3), 6);
        due.fine("known there", post, post.knows(0, 1), 5);
        due.none("not here", post, post.knows(0, 0), 7);
        due.fine("the same minute", post, post.letter(0, 0, 1, 5), 1);
        Posts.fill(post, 1, 3, 1L << 32);
        due.none("beyond 32 bits", post, post.letter(0, 1, 1, 5), 1);
        Posts.fill(post, 1, 0, 127);
        due.fine("of 8 bits", post, post.letter(0, 1, 1, 100000), 2);
    }

    private static void letterRefused() {
        PigeonPost post = Posts.withTowns(1);
        Posts.fill(post, 0, 1, 1, 0, 3);
        Posts.fill(post, 1, 1, 256);
        Posts.fill(post, 2, 1, -1);
        due.fine("letter(0, 0, 1, 10)", post, post.letter(0, 0, 1, 10), 0);
        due.none("letter(1, ..)", post, post.letter(1, 0, 1, 10), 1);
        due.none("letter(-1, ..)", post, post.letter(-1, 0, 1, 10), 1);
        due.none("tray 4", post, post.letter(0, 4, 1, 10), 1);
        due.none("tray -1", post, post.letter(0, -1, 1, 10), 1);
        due.none("many 0", post, post.letter(0, 0, 0, 10), 1);
        due.none("many 41, gone", post, post.letter(0, 0, 41, 9), 1);
        due.none("minute -1", post, post.letter(0, 0, 1, -1), 1);
        due.none("minute 100001", post, post.letter(0, 0, 1, 100001), 1);
        due.none("gone, ahead of MISSING", post, post.letter(0, 3, 1, 9), 2);
        due.none("MISSING", post, post.letter(0, 3, 1, 99), 3);
        due.none("too few, ahead of the numbers", post, post.letter(0, 0, 4, 99), 4);
        due.none("too many of one tray", post, post.letter(0, 1, 40, 99), 4);
        due.none("a 0", post, post.letter(0, 0, 2, 99), 1);
        due.none("a 256", post, post.letter(0, 1, 1, 99), 1);
        due.none("a -1", post, post.letter(0, 2, 1, 99), 1);
        due.fine("the minute stays", post, post.letter(0, 0, 1, 10), 1);
    }

    private static void mostLetters() {
        PigeonPost post = Posts.withTowns(1);
        Posts.fill(post, 0, 1, 1, 0);
        for (int i = 0; i < 40; i++) due.fine("letter", post, post.letter(0, 0, 1, i), i);
        due.none("a 41st with a 0", post, post.letter(0, 0, 2, 40), 1);
        due.none("a 41st", post, post.letter(0, 0, 1, 40), 5);
        due.fine("knows(39, 0)", post, post.knows(39, 0), 39);
        due.none("knows(40, 0)", post, post.knows(40, 0), 1);
    }

    private static void fly() {
        PigeonPost post = Posts.withTowns(2);
        post.road(0, 1, 500, 9);
        Posts.letter(post, 0, 2, 10);
        Posts.birds(post, 2, 1, 0);
        due.fine("at the same minute", post, post.fly(0, 0, 10));
        due.fine("it FLIES", post, post.told(0, 2), 1);
        due.fine("with it", post, post.told(0, 4), 0);
        due.fine("a COPY flew off", post, post.copies(0, 0), 1);
        due.fine("a double", post, post.fly(1, 0, 11));
        due.fine("COPIES flew off", post, post.copies(0, 0), 2);
        due.fine("none came", post, post.copies(0, 1), 0);
        due.fine("none LOST", post, post.copies(0, 2), 0);
        due.none("copies(1, 0)", post, post.copies(1, 0), 1);
        due.none("copies(-1, 0)", post, post.copies(-1, 0), 1);
        due.none("copies(0, -1)", post, post.copies(0, -1), 1);
        due.none("copies(0, 3)", post, post.copies(0, 3), 1);
    }

    private static void flyRefused() {
        PigeonPost post = Posts.withTowns(3);
        post.road(0, 1, 10, 0);
        Posts.letter(post, 0, 2, 10);
        post.bird(1);
        due.not("fly(1, 0, 10)", post, post.fly(1, 0, 10), 1);
        due.not("fly(-1, 0, 10)", post, post.fly(-1, 0, 10), 1);
        due.not("fly(0, 1, 10)", post, post.fly(0, 1, 10), 1);
        due.not("fly(0, -1, 10)", post, post.fly(0, -1, 10), 1);
        due.not("minute -1", post, post.fly(0, 0, -1), 1);
        due.not("minute 100001", post, post.fly(0, 0, 100001), 1);
        due.not("gone, ahead of at HOME", post, post.fly(0, 0, 9), 2);
        due.not("at HOME", post, post.fly(0, 0, 10), 7);
        post.carry(0, 2);
        due.not("no ROAD, ahead of not KNOWN", post, post.fly(0, 0, 10), 6);
        post.road(1, 2, 10, 0);
        due.not("not KNOWN", post, post.fly(0, 0, 10), 7);
        post.carry(0, 0);
        due.fine("now", post, post.fly(0, 0, 20));
        due.not("it FLIES", post, post.fly(0, 0, 20), 7);
        post.comes(0, -1, -1, 30);
        post.carry(0, 0);
        post.road(0, 1, -1, 0);
        due.not("at REST, ahead of no ROAD", post, post.fly(0, 0, 89), 7);
        due.not("no ROAD", post, post.fly(0, 0, 90), 6);
        post.road(0, 1, 10, 0);
        due.not("the minute stays: at REST still", post, post.fly(0, 0, 30), 7);
        due.fine("at REST no more", post, post.fly(0, 0, 90));
        post.lose(0, 90);
        due.not("it is LOST", post, post.fly(0, 0, 200), 7);
        due.fine("copies(0, 0)", post, post.copies(0, 0), 2);
    }

    private static void comesWhole() {
        PigeonPost post = Posts.withTowns(3);
        post.road(0, 1, 10, 0);
        post.road(1, 2, 10, 0);
        Posts.letter(post, 0, 3, 10);
        Posts.birds(post, 3, 1, 0);
        Posts.birds(post, 1, 2, 1);
        post.fly(0, 0, 10);
        due.fine("comes at the same minute", post, post.comes(0, -1, -1, 10), 1);
        due.fine("knows(0, 1)", post, post.knows(0, 1), 10);
        due.fine("WAITS", post, post.told(0, 2), 0);
        due.fine("at HOME", post, post.told(0, 1), 1);
        due.fine("at REST", post, post.told(0, 3), 70);
        due.fine("without the LETTER", post, post.told(0, 4), -1);
        due.fine("a COPY came", post, post.copies(0, 1), 1);
        post.fly(1, 0, 11);
        due.fine("known already", post, post.comes(1, -1, -1, 12), 0);
        due.fine("as it was", post, post.knows(0, 1), 10);
        post.fly(2, 0, 13);
        post.road(0, 1, -1, 0);
        due.fine("the ROAD gone meanwhile", post, post.comes(2, 1, 1, 14), 0);
        due.fine("COPIES came", post, post.copies(0, 1), 3);
        due.fine("on from there", post, post.fly(3, 0, 15));
        due.fine("to the next", post, post.comes(3, -1, -1, 20), 1);
        due.fine("knows(0, 2)", post, post.knows(0, 2), 20);
    }

    private static void bytes(String call, PigeonPost post, int town, int... bytes) {
        for (int k = 0; k < bytes.length; k++) due.fine(call + ", joined " + k, post, post.joined(0, town, k), bytes[k]);
    }

    private static void comesTorn() {
        PigeonPost post = Posts.withTowns(2);
        post.road(0, 1, 10, 0);
        Posts.letter(post, 0, 5, 0);
        Posts.birds(post, 6, 1, 0);
        for (int bird = 0; bird < 6; bird++) post.fly(bird, 0, 1);
        bytes("nothing", post, 1, 0, 0, 0, 0, 0);
        due.fine("without any", post, post.comes(0, 0, 4, 2), 0);
        bytes("without any", post, 1, 0, 0, 0, 0, 0);
        due.fine("without 1 to 4", post, post.comes(1, 1, 4, 3), 0);
        bytes("without 1 to 4", post, 1, 1, 0, 0, 0, 0);
        due.fine("without 0 to 3", post, post.comes(2, 0, 3, 4), 0);
        bytes("without 0 to 3", post, 1, 1, 0, 0, 0, 5);
        due.none("not yet", post, post.knows(0, 1), 7);
        due.fine("without 2", post, post.comes(3, 2, 2, 5), 0);
        bytes("without 2", post, 1, 1, 2, 0, 4, 5);
        due.fine("without 0", post, post.comes(4, 0, 0, 6), 1);
        bytes("all together", post, 1, 1, 2, 3, 4, 5);
        due.fine("knows(0, 1)", post, post.knows(0, 1), 6);
        due.fine("known already", post, post.comes(5, 0, 4, 7), 0);
        bytes("still there", post, 1, 1, 2, 3, 4, 5);
        due.fine("still known", post, post.knows(0, 1), 6);
        bytes("where it was told", post, 0, 1, 2, 3, 4, 5);
    }

    private static void comesRefused() {
        PigeonPost post = Posts.withTowns(2);
        post.road(0, 1, 10, 0);
        Posts.letter(post, 0, 3, 0);
        Posts.birds(post, 2, 1, 0);
        post.fly(0, 0, 10);
        due.none("comes(2, ..)", post, post.comes(2, -1, -1, 10), 1);
        due.none("comes(-1, ..)", post, post.comes(-1, -1, -1, 10), 1);
        due.none("minute -1", post, post.comes(0, -1, -1, -1), 1);
        due.none("minute 100001", post, post.comes(0, -1, -1, 100001), 1);
        due.none("NONE and 1", post, post.comes(0, -1, 1, 10), 1);
        due.none("1 and NONE", post, post.comes(0, 1, -1, 10), 1);
        due.none("-2 and -2", post, post.comes(0, -2, -2, 10), 1);
        due.none("from above to", post, post.comes(0, 2, 1, 10), 1);
        due.none("not below its bytes, gone", post, post.comes(0, 2, 3, 9), 1);
        due.none("gone", post, post.comes(0, 2, 2, 9), 2);
        due.none("40, WAITS", post, post.comes(1, 0, 40, 10), 1);
        due.none("from above to, WAITS", post, post.comes(1, 39, 38, 10), 1);
        due.none("39, WAITS, gone", post, post.comes(1, 39, 39, 9), 2);
        due.none("39, WAITS", post, post.comes(1, 0, 39, 10), 7);
        due.none("WAITS", post, post.comes(1, -1, -1, 99), 7);
        due.fine("none came", post, post.copies(0, 1), 0);
        due.fine("the minute stays", post, post.comes(0, 0, 2, 10), 0);
        due.none("WAITS now", post, post.comes(0, 0, 3, 10), 7);
    }

    private static void lose() {
        PigeonPost post = Posts.withTowns(2);
        post.road(0, 1, 10, 0);
        Posts.letter(post, 0, 3, 0);
        Posts.birds(post, 2, 1, 0);
        post.fly(0, 0, 10);
        due.not("lose(2, 10)", post, post.lose(2, 10), 1);
        due.not("lose(-1, 10)", post, post.lose(-1, 10), 1);
        due.not("minute -1", post, post.lose(0, -1), 1);
        due.not("minute 100001", post, post.lose(0, 100001), 1);
        due.not("gone", post, post.lose(0, 9), 2);
        due.not("gone, ahead of WAITS", post, post.lose(1, 9), 2);
        due.not("WAITS", post, post.lose(1, 99), 7);
        due.fine("none LOST", post, post.copies(0, 2), 0);
        due.fine("lose(0, 10)", post, post.lose(0, 10));
        due.fine("it is LOST", post, post.told(0, 2), 2);
        due.fine("one LOST", post, post.copies(0, 2), 1);
        due.fine("none came", post, post.copies(0, 1), 0);
        due.not("LOST already", post, post.lose(0, 10), 7);
        due.none("it comes no more", post, post.comes(0, -1, -1, 10), 7);
        due.none("LOST: to 39", post, post.comes(0, 0, 39, 10), 7);
        due.none("not KNOWN", post, post.knows(0, 1), 7);
    }

    private static void knows() {
        PigeonPost post = Posts.withTowns(2);
        due.none("no LETTER", post, post.knows(0, 0), 1);
        Posts.letter(post, 0, 1, 0);
        due.fine("knows(0, 0)", post, post.knows(0, 0), 0);
        due.none("knows(0, 1)", post, post.knows(0, 1), 7);
        due.none("knows(0, 2)", post, post.knows(0, 2), 1);
        due.none("knows(0, -1)", post, post.knows(0, -1), 1);
        due.none("knows(1, 0)", post, post.knows(1, 0), 1);
        due.none("knows(-1, 0)", post, post.knows(-1, 0), 1);
        due.fine("a TOWN later", post, post.town(), 2);
        due.none("knows(0, 2) now", post, post.knows(0, 2), 7);
    }

    private static void joined() {
        PigeonPost post = Posts.withTowns(2);
        Posts.letter(post, 0, 2, 0);
        due.fine("joined(0, 0, 1)", post, post.joined(0, 0, 1), 2);
        due.fine("joined(0, 1, 1)", post, post.joined(0, 1, 1), 0);
        due.none("joined(0, 0, 2)", post, post.joined(0, 0, 2), 6);
        due.none("joined(0, 0, -1)", post, post.joined(0, 0, -1), 6);
        due.none("joined(1, 0, 0)", post, post.joined(1, 0, 0), 1);
        due.none("joined(-1, 0, 0)", post, post.joined(-1, 0, 0), 1);
        due.none("joined(0, 2, 9)", post, post.joined(0, 2, 9), 1);
        due.none("joined(0, -1, 0)", post, post.joined(0, -1, 0), 1);
    }

    private static void longest() {
        PigeonPost post = Posts.withTowns(2);
        post.road(0, 1, 10, 0);
        Posts.letter(post, 0, 40, 0);
        Posts.birds(post, 3, 1, 0);
        for (int bird = 0; bird < 3; bird++) post.fly(bird, 0, 0);
        due.fine("without any of 40", post, post.comes(0, 0, 39, 1), 0);
        due.fine("without 30 to 39", post, post.comes(1, 30, 39, 2), 0);
        due.fine("without 0 to 29", post, post.comes(2, 0, 29, 3), 1);
        for (int k = 0; k < 40; k++) due.fine("joined", post, post.joined(0, 1, k), k + 1);
        due.none("joined(0, 1, 40)", post, post.joined(0, 1, 40), 6);
    }

    private static void minutes() {
        PigeonPost post = Posts.withTowns(2);
        post.road(0, 1, 10, 0);
        Posts.letter(post, 0, 1, 100);
        Posts.birds(post, 2, 1, 0);
        post.fly(0, 0, 200);
        due.not("fly sets the minute", post, post.fly(1, 0, 199), 2);
        post.comes(0, -1, -1, 300);
        due.not("comes sets the minute", post, post.fly(1, 0, 299), 2);
        post.fly(1, 0, 300);
        post.lose(1, 400);
        due.none("lose sets the minute", post, Posts.letter(post, 0, 1, 399), 2);
        due.fine("at the latest", post, post.reading(0, 100000, 0));
        due.none("reading sets the minute", post, Posts.letter(post, 0, 1, 99999), 2);
        due.fine("the last minute", post, Posts.letter(post, 0, 1, 100000), 1);
    }
}
