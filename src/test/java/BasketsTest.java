/** Promises 20 to 25. */
public final class BasketsTest {
    private static final Due due = new Due("BasketsTest");

    public static void main(String[] args) {
        want();
        lack();
        mostWorth();
        leastFares();
        moreBirdsFirst();
        birdsThatCount();
        eachByItself();
        full();
        lastTown();
        refused();
        send();
        due.end();
    }

    private static void want() {
        PigeonPost post = Posts.withTowns(3);
        due.fine("want(1, 0, 20, 100)", post, post.want(1, 0, 20, 100));
        due.fine("lack(1, 0)", post, post.lack(1, 0), 20);
        due.fine("lack(0, 1)", post, post.lack(0, 1), 0);
        due.not("21", post, post.want(1, 0, 21, 1), 1);
        due.not("-1", post, post.want(1, 0, -1, 1), 1);
        due.not("WORTH 0", post, post.want(1, 0, 1, 0), 1);
        due.not("WORTH 0 of none", post, post.want(1, 0, 0, 0), 1);
        due.not("WORTH 101", post, post.want(1, 0, 1, 101), 1);
        due.not("like ones", post, post.want(1, 1, 1, 1), 1);
        due.not("want(3, 0, 1, 1)", post, post.want(3, 0, 1, 1), 1);
        due.not("want(0, 3, 1, 1)", post, post.want(0, 3, 1, 1), 1);
        due.not("want(-1, 0, 1, 1)", post, post.want(-1, 0, 1, 1), 1);
        due.not("want(0, -1, 1, 1)", post, post.want(0, -1, 1, 1), 1);
        Posts.birds(post, 1, 0, 0);
        due.fine("the WORTH stays", post, post.carrying(0), 100);
        due.fine("want(1, 0, 1, 1)", post, post.want(1, 0, 1, 1));
        due.fine("another WORTH", post, post.carrying(0), 1);
        due.fine("want(1, 0, 0, 1)", post, post.want(1, 0, 0, 1));
        due.fine("none WANTED", post, post.lack(1, 0), 0);
    }

    private static void lack() {
        PigeonPost post = Posts.withTowns(3);
        due.fine("0 at first", post, post.lack(2, 0), 0);
        post.want(2, 0, 2, 5);
        Posts.birds(post, 1, 0, 2);
        Posts.birds(post, 1, 1, 2);
        due.fine("less one of that HOME", post, post.lack(2, 0), 1);
        Posts.birds(post, 2, 0, 2);
        due.fine("0 at least", post, post.lack(2, 0), 0);
        due.none("like ones", post, post.lack(2, 2), 1);
        due.none("lack(3, 0)", post, post.lack(3, 0), 1);
        due.none("lack(0, 3)", post, post.lack(0, 3), 1);
        due.none("lack(-1, 0)", post, post.lack(-1, 0), 1);
        due.none("lack(0, -1)", post, post.lack(0, -1), 1);
    }

    /** BEST CARRYING of HOME 0: its WORTH, its FARES, its loads from TOWN 1 on. */
    private static void best(String call, PigeonPost post, int worth, int fares, int... loads) {
        due.fine(call + ", carrying(0)", post, post.carrying(0), worth);
        due.fine(call + ", fares(0)", post, post.fares(0), fares);
        for (int i = 0; i < loads.length; i++) {
            due.fine(call + ", carried(0, " + (i + 1) + ")", post, post.carried(0, i + 1), loads[i]);
        }
    }

    private static void mostWorth() {
        PigeonPost post = Posts.withTowns(4);
        best("nothing", post, 0, 0, 0, 0, 0);
        Posts.birds(post, 10, 0, 0);
        best("none LACKED", post, 0, 0, 0, 0, 0);
        post.want(1, 0, 5, 2);
        post.want(2, 0, 5, 1);
        post.want(3, 0, 4, 3);
        best("dear ones first", post, 23, 30, 5, 1, 4);
        post.fare(0, 3, 1000);
        best("WORTH ahead of FARES", post, 23, 1020, 5, 1, 4);
        post.want(3, 0, 0, 3);
        best("all LACKED", post, 15, 20, 5, 5, 0);
        post.want(0, 1, 5, 100);
        best("of another HOME", post, 15, 20, 5, 5, 0);
    }

    private static void leastFares() {
        PigeonPost post = Posts.withTowns(3);
        Posts.birds(post, 7, 0, 0);
        post.want(1, 0, 7, 2);
        post.want(2, 0, 6, 2);
        best("6 and 1 or 7: one of two BASKETS each", post, 14, 20, 7, 0);
        post.fare(0, 2, 9);
        best("6 and 1", post, 14, 19, 6, 1);
        post.fare(0, 2, 0);
        best("for nothing", post, 14, 10, 6, 1);
        post.fare(0, 1, 100);
        post.fare(0, 2, 40);
        best("1 and 6 as dear as 6 and 1", post, 14, 140, 6, 1);
        post.want(2, 0, 7, 2);
        best("two cheap BASKETS", post, 14, 80, 0, 7);
    }

    private static void moreBirdsFirst() {
        PigeonPost post = Posts.withTowns(4);
        Posts.birds(post, 4, 0, 0);
        for (int town = 1; town < 4; town++) post.want(town, 0, 4, 7);
        best("one BASKET, to TOWN 1", post, 28, 10, 4, 0, 0);
        for (int town = 1; town < 4; town++) post.want(town, 0, 2, 7);
        best("two BASKETS, to TOWNS 1 and 2", post, 28, 20, 2, 2, 0);
        for (int town = 1; town < 4; town++) post.fare(0, town, 0);
        post.want(1, 0, 1, 7);
        post.want(3, 0, 3, 7);
        best("for nothing", post, 28, 0, 1, 2, 1);
    }

    private static void birdsThatCount() {
        PigeonPost post = Posts.withTowns(3);
        post.road(0, 1, 10, 0);
        post.want(2, 0, 20, 1);
        Posts.letter(post, 1, 1, 0);
        Posts.birds(post, 3, 0, 1);
        Posts.birds(post, 2, 1, 0);
        best("none at HOME", post, 0, 0, 0, 0);
        post.fly(0, 0, 1);
        best("one FLIES", post, 0, 0, 0, 0);
        post.comes(0, -1, -1, 2);
        best("at REST", post, 1, 10, 0, 1);
        post.fly(1, 0, 3);
        post.lose(1, 3);
        best("LOST", post, 1, 10, 0, 1);
        due.fine("send(0)", post, post.send(0), 1);
        due.fine("one at REST goes, too", post, post.told(0, 1), 2);
        due.fine("and is still at REST", post, post.told(0, 3), 62);
        due.fine("lack(2, 0)", post, post.lack(2, 0), 19);
        best("none at HOME any more", post, 0, 0, 0, 0);
    }

    /** Each call finds the BEST CARRYING of its HOME anew, whatever was asked ahead of it. */
    private static void eachByItself() {
        PigeonPost post = Posts.withTowns(3);
        Posts.birds(post, 3, 0, 0);
        Posts.birds(post, 9, 1, 1);
        post.want(2, 0, 2, 5);
        post.want(2, 1, 8, 6);
        post.fare(1, 2, 30);
        due.fine("carried(0, 2)", post, post.carried(0, 2), 2);
        due.fine("carried(1, 2)", post, post.carried(1, 2), 8);
        due.fine("fares(0)", post, post.fares(0), 10);
        due.fine("fares(1)", post, post.fares(1), 60);
        due.fine("carrying(0)", post, post.carrying(0), 10);
        due.fine("carrying(1)", post, post.carrying(1), 48);
        due.fine("send(0)", post, post.send(0), 2);
        due.fine("send(1)", post, post.send(1), 8);
        due.fine("nothing more", post, post.carried(1, 2), 0);
        post.want(2, 0, 3, 5);
        due.fine("one more WANTED", post, post.carried(0, 2), 1);
    }

    private static void lastTown() {
        PigeonPost post = Posts.withTowns(10);
        Posts.birds(post, 7, 8, 8);
        post.want(9, 8, 7, 100);
        post.fare(8, 9, 25);
        due.fine("fares(8)", post, post.fares(8), 50);
        due.fine("carrying(8)", post, post.carrying(8), 700);
        due.fine("carried(8, 9)", post, post.carried(8, 9), 7);
        due.fine("send(8)", post, post.send(8), 7);
        due.fine("waits(8, 9)", post, post.waits(8, 9), 7);
    }

    private static void full() {
        PigeonPost post = Posts.withTowns(10);
        Posts.birds(post, 60, 9, 9);
        for (int town = 0; town < 9; town++) {
            post.want(town, 9, 20, 100);
            post.fare(9, town, 1000);
        }
        due.fine("the most WORTH", post, post.carrying(9), 6000);
        due.fine("the most BASKETS that are needed", post, post.fares(9), 10000);
        // 20 birds need four BASKETS, 18 three
        int[] loads = {18, 18, 18, 6, 0, 0, 0, 0, 0};
        for (int town = 0; town < 9; town++) {
            due.fine("carried(9, " + town + ")", post, post.carried(9, town), loads[town]);
        }
        due.fine("send(9)", post, post.send(9), 60);
        for (int bird = 0; bird < 60; bird++) due.is("told(" + bird + ", 1)", post.told(bird, 1), bird / 18);
    }

    private static void refused() {
        PigeonPost post = Posts.withTowns(2);
        for (int home = -1; home < 3; home += 3) {
            due.none("carrying", post, post.carrying(home), 1);
            due.none("fares", post, post.fares(home), 1);
            due.none("send", post, post.send(home), 1);
            due.none("carried", post, post.carried(home, 0), 1);
            due.none("carried", post, post.carried(0, home), 1);
        }
        due.none("like ones", post, post.carried(1, 1), 1);
    }

    private static void send() {
        PigeonPost post = Posts.withTowns(3);
        Posts.birds(post, 1, 0, 1);
        Posts.birds(post, 1, 1, 0);
        Posts.birds(post, 5, 0, 0);
        post.want(1, 0, 3, 4);
        post.want(2, 0, 2, 5);
        due.fine("send(0)", post, post.send(0), 4);
        int[] towns = {1, 0, 1, 1, 2, 2, 0};
        for (int bird = 0; bird < 7; bird++) due.fine("told(" + bird + ", 1)", post, post.told(bird, 1), towns[bird]);
        due.fine("waits(0, 1)", post, post.waits(0, 1), 3);
        due.fine("waits(0, 2)", post, post.waits(0, 2), 2);
        due.fine("waits(0, 0)", post, post.waits(0, 0), 1);
        due.fine("none LACKED any more", post, post.send(0), 0);
        due.fine("of another HOME", post, post.send(1), 0);
    }
}
