/** Promises 9 to 15. */
public final class TownsTest {
    private static final Due due = new Due("TownsTest");

    public static void main(String[] args) {
        town();
        road();
        roadRefused();
        fare();
        bird();
        carry();
        told();
        waits();
        due.end();
    }

    private static void town() {
        PigeonPost post = new PigeonPost();
        for (int i = 0; i < 10; i++) due.fine("town()", post, post.town(), i);
        due.none("an 11th town()", post, post.town(), 5);
        due.fine("bird(9)", post, post.bird(9), 0);
        due.none("bird(10)", post, post.bird(10), 1);
    }

    private static void road() {
        PigeonPost post = Posts.withTowns(3);
        due.fine("road(2, 0, 1, 0)", post, post.road(2, 0, 1, 0));
        due.fine("one way", post, post.sure(0, 2, 1), 1);
        due.fraction("no LOSS", post, 1, 1);
        due.fine("and back", post, post.sure(2, 0, 1), 1);
        due.fine("road(0, 2, 500, 9)", post, post.road(0, 2, 500, 9));
        post.sure(2, 0, 1);
        due.fraction("another one of them goes", post, 1, 10);
        due.none("no other ROAD", post, post.sure(0, 1, 1), 6);
        due.fine("none any more", post, post.road(2, 0, -1, 0));
        due.none("it is gone", post, post.sure(0, 2, 1), 6);
        due.not("gone already", post, post.road(0, 2, -1, 0), 6);
        due.fine("one again", post, post.road(0, 2, 7, 3));
        post.sure(0, 2, 1);
        due.fraction("one again", post, 7, 10);
    }

    private static void roadRefused() {
        PigeonPost post = Posts.withTowns(3);
        post.road(0, 1, 10, 2);
        due.not("road(0, 3, 10, 2)", post, post.road(0, 3, 10, 2), 1);
        due.not("road(-1, 1, 10, 2)", post, post.road(-1, 1, 10, 2), 1);
        due.not("like ones", post, post.road(1, 1, 10, 2), 1);
        due.not("like ones, none", post, post.road(1, 1, -1, 2), 1);
        due.not("0 minutes", post, post.road(0, 1, 0, 2), 1);
        due.not("-2 minutes", post, post.road(0, 1, -2, 2), 1);
        due.not("501 minutes", post, post.road(0, 1, 501, 2), 1);
        due.not("loss -1", post, post.road(0, 1, 10, -1), 1);
        due.not("loss 10", post, post.road(0, 1, 10, 10), 1);
        due.not("loss 10, no ROAD to go", post, post.road(0, 2, -1, 10), 1);
        due.not("none to go", post, post.road(0, 2, -1, 2), 6);
        post.sure(0, 1, 1);
        due.fraction("the ROAD stays", post, 4, 5);
    }

    private static void fare() {
        PigeonPost post = Posts.withTowns(3);
        Posts.birds(post, 7, 0, 0);
        post.want(1, 0, 7, 1);
        due.fine("10 a BASKET at first", post, post.fares(0), 20);
        due.fine("the other way", post, post.fare(1, 0, 500));
        due.fine("each way by itself", post, post.fares(0), 20);
        due.fine("fare(0, 1, 1000)", post, post.fare(0, 1, 1000));
        due.fine("2 BASKETS", post, post.fares(0), 2000);
        due.fine("fare(0, 1, 0)", post, post.fare(0, 1, 0));
        due.fine("for nothing", post, post.fares(0), 0);
        due.not("fare(0, 1, -1)", post, post.fare(0, 1, -1), 1);
        due.not("fare(0, 1, 1001)", post, post.fare(0, 1, 1001), 1);
        due.not("fare(1, 1, 5)", post, post.fare(1, 1, 5), 1);
        due.not("fare(0, 3, 5)", post, post.fare(0, 3, 5), 1);
        due.not("fare(-1, 0, 5)", post, post.fare(-1, 0, 5), 1);
        due.fine("nothing changed", post, post.fares(0), 0);
    }

    private static void bird() {
        PigeonPost post = Posts.withTowns(2);
        due.none("bird(-1)", post, post.bird(-1), 1);
        due.none("bird(2)", post, post.bird(2), 1);
        for (int i = 0; i < 60; i++) due.fine("bird(" + i % 2 + ")", post, post.bird(i % 2), i);
        due.none("a 61st", post, post.bird(0), 5);
        due.none("a 61st of no TOWN", post, post.bird(2), 1);
        due.fine("waits(0, 0)", post, post.waits(0, 0), 30);
        due.fine("told(59, 0)", post, post.told(59, 0), 1);
        due.fine("told(59, 1)", post, post.told(59, 1), 1);
        due.none("told(60, 0)", post, post.told(60, 0), 1);
    }

    private static void carry() {
        PigeonPost post = Posts.withTowns(3);
        post.bird(0);
        due.fine("carry(0, 2)", post, post.carry(0, 2));
        due.fine("it WAITS there", post, post.told(0, 1), 2);
        due.fine("where it is", post, post.carry(0, 2));
        due.fine("once", post, post.waits(0, 2), 1);
        due.fine("its HOME, too", post, post.carry(0, 0));
        due.fine("it WAITS at HOME", post, post.told(0, 1), 0);
        due.not("carry(1, 0)", post, post.carry(1, 0), 1);
        due.not("carry(-1, 0)", post, post.carry(-1, 0), 1);
        due.not("carry(0, 3)", post, post.carry(0, 3), 1);
        due.not("carry(0, -1)", post, post.carry(0, -1), 1);
        post.road(0, 1, 5, 0);
        Posts.letter(post, 1, 1, 0);
        post.carry(0, 1);
        post.fly(0, 0, 0);
        due.not("it FLIES", post, post.carry(0, 2), 7);
        due.not("it FLIES, no such TOWN", post, post.carry(0, 3), 1);
        post.comes(0, -1, -1, 5);
        due.fine("at REST", post, post.carry(0, 1));
        due.fine("still at REST", post, post.told(0, 3), 65);
        post.fly(0, 0, 65);
        post.lose(0, 66);
        due.not("it is LOST", post, post.carry(0, 2), 7);
    }

    private static void bird(String when, PigeonPost post, long... answers) {
        for (int what = 0; what < 5; what++) due.fine(when + ", told(0, " + what + ")", post, post.told(0, what), answers[what]);
    }

    private static void told() {
        PigeonPost post = Posts.withTowns(3);
        post.road(1, 2, 5, 0);
        Posts.letter(post, 2, 1, 3);
        Posts.letter(post, 2, 1, 3);
        post.bird(1);
        bird("new", post, 1, 1, 0, 0, -1);
        post.carry(0, 2);
        bird("carried", post, 1, 2, 0, 0, -1);
        post.fly(0, 1, 10);
        bird("off", post, 1, -1, 1, 0, 1);
        post.comes(0, -1, -1, 20);
        bird("back", post, 1, 1, 0, 80, -1);
        post.carry(0, 2);
        post.fly(0, 0, 90);
        bird("off again", post, 1, -1, 1, 80, 0);
        post.lose(0, 95);
        bird("lost", post, 1, -1, 2, 80, -1);
        due.none("told(0, -1)", post, post.told(0, -1), 1);
        due.none("told(0, 5)", post, post.told(0, 5), 1);
        due.none("told(1, 0)", post, post.told(1, 0), 1);
        due.none("told(-1, 0)", post, post.told(-1, 0), 1);
    }

    private static void waits() {
        PigeonPost post = Posts.withTowns(3);
        post.road(0, 1, 5, 0);
        Posts.letter(post, 1, 1, 0);
        Posts.birds(post, 2, 0, 1);
        Posts.birds(post, 1, 0, 0);
        Posts.birds(post, 3, 2, 1);
        due.fine("waits(0, 1)", post, post.waits(0, 1), 2);
        due.fine("waits(0, 0)", post, post.waits(0, 0), 1);
        due.fine("waits(2, 1)", post, post.waits(2, 1), 3);
        due.fine("waits(1, 2)", post, post.waits(1, 2), 0);
        post.fly(0, 0, 1);
        due.fine("one FLIES", post, post.waits(0, 1), 1);
        due.fine("not back", post, post.waits(0, 0), 1);
        post.comes(0, 0, 0, 1);
        due.fine("back, at REST", post, post.waits(0, 0), 2);
        post.fly(1, 0, 1);
        post.lose(1, 1);
        due.fine("one LOST", post, post.waits(0, 1), 0);
        due.fine("it didn't come", post, post.waits(0, 0), 2);
        due.none("waits(3, 0)", post, post.waits(3, 0), 1);
        due.none("waits(0, 3)", post, post.waits(0, 3), 1);
        due.none("waits(-1, 0)", post, post.waits(-1, 0), 1);
        due.none("waits(0, -1)", post, post.waits(0, -1), 1);
    }
}
