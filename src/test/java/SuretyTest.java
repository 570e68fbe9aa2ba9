/** Promises 16 to 19. */
public final class SuretyTest {
    private static final Due due = new Due("SuretyTest");

    public static void main(String[] args) {
        sure();
        doubles();
        relay();
        relayRefused();
        leastMinutes();
        firstByTowns();
        firstByDoubles();
        mostRoads();
        birdsThatCount();
        leg();
        due.end();
    }

    private static void sure() {
        PigeonPost post = Posts.withTowns(3);
        post.road(0, 1, 10, 7);
        long[] tops = {3, 51, 657, 7599};
        for (int k = 1; k <= 4; k++) {
            due.fine("sure(0, 1, " + k + ")", post, post.sure(0, 1, k), 1);
            due.fraction("sure(0, 1, " + k + ")", post, tops[k - 1], Math.round(Math.pow(10, k)));
        }
        post.road(0, 1, 10, 0);
        due.fine("no LOSS", post, post.sure(1, 0, 4), 1);
        due.fraction("no LOSS", post, 1, 1);
        due.none("sure(0, 1, 0)", post, post.sure(0, 1, 0), 1);
        due.none("sure(0, 1, 5)", post, post.sure(0, 1, 5), 1);
        due.none("like ones", post, post.sure(0, 0, 1), 1);
        due.none("sure(0, 3, 1)", post, post.sure(0, 3, 1), 1);
        due.none("sure(-1, 0, 1)", post, post.sure(-1, 0, 1), 1);
        due.none("no ROAD, five doubles", post, post.sure(0, 2, 5), 1);
        due.none("no ROAD", post, post.sure(0, 2, 1), 6);
    }

    private static void doubles() {
        PigeonPost post = Posts.withTowns(3);
        post.road(0, 1, 10, 5);
        due.fine("doubles(0, 1, 0, 1000)", post, post.doubles(0, 1, 0, 1000), 1);
        due.fine("doubles(0, 1, 1, 2)", post, post.doubles(0, 1, 1, 2), 1);
        due.fine("doubles(0, 1, 501, 1000)", post, post.doubles(0, 1, 501, 1000), 2);
        due.fine("doubles(1, 0, 7, 8)", post, post.doubles(1, 0, 7, 8), 3);
        due.fine("doubles(0, 1, 876, 1000)", post, post.doubles(0, 1, 876, 1000), 4);
        due.fine("doubles(0, 1, 15, 16)", post, post.doubles(0, 1, 15, 16), 4);
        due.none("four don't do", post, post.doubles(0, 1, 938, 1000), 6);
        due.none("no ROAD", post, post.doubles(0, 2, 0, 1), 6);
        due.none("a TOWN and itself: no ROAD", post, post.doubles(0, 0, 0, 1), 6);
        due.none("n -1", post, post.doubles(0, 1, -1, 2), 1);
        due.none("n above d", post, post.doubles(0, 1, 3, 2), 1);
        due.none("d 0", post, post.doubles(0, 1, 0, 0), 1);
        due.none("d -1", post, post.doubles(0, 1, -1, -1), 1);
        due.none("d 1001", post, post.doubles(0, 1, 1, 1001), 1);
        due.none("doubles(0, 3, 1, 2)", post, post.doubles(0, 3, 1, 2), 1);
        due.none("doubles(-1, 0, 1, 2)", post, post.doubles(-1, 0, 1, 2), 1);
        post.road(0, 1, 10, 0);
        due.fine("surely", post, post.doubles(0, 1, 1, 1), 1);
        post.road(0, 1, 10, 1);
        due.none("not surely", post, post.doubles(0, 1, 1, 1), 6);
    }

    /** The legs of the RELAY found latest: TOWN, doubles, TOWN, doubles .. TOWN. */
    private static void legs(String call, PigeonPost post, int... legs) {
        int roads = legs.length / 2;
        for (int k = 0; k < 3; k++) {
            for (int what = 0; what < 3; what++) {
                String leg = call + ", leg(" + k + ", " + what + ")";
                if (k >= roads) due.none(leg, post, post.leg(k, what), 6);
                else due.fine(leg, post, post.leg(k, what), legs[2 * k + (what == 0 ? 0 : what == 1 ? 2 : 1)]);
            }
        }
    }

    private static void relay() {
        PigeonPost post = Posts.withTowns(4);
        post.road(0, 3, 100, 9);
        post.road(0, 1, 10, 2);
        post.road(1, 3, 10, 5);
        Posts.birds(post, 5, 3, 0);
        Posts.birds(post, 1, 1, 0);
        Posts.birds(post, 2, 3, 1);
        due.fine("straight", post, post.relay(0, 3, 1, 10), 1);
        due.fraction("straight", post, 1, 10);
        legs("straight", post, 0, 1, 3);
        due.fine("over 1", post, post.relay(0, 3, 2, 5), 2);
        due.fraction("over 1", post, 2, 5);
        legs("over 1", post, 0, 1, 1, 1, 3);
        due.fine("a double on the second", post, post.relay(0, 3, 3, 5), 3);
        due.fraction("a double on the second", post, 3, 5);
        legs("a double on the second", post, 0, 1, 1, 2, 3);
        due.none("no better", post, post.relay(0, 3, 601, 1000), 6);
        due.fraction("the FRACTION stays", post, 3, 5);
        legs("the RELAY stays", post, 0, 1, 1, 2, 3);
        due.none("no BIRDS back", post, post.relay(3, 0, 0, 1), 6);
        post.road(0, 1, -1, 0);
        due.fine("four doubles", post, post.relay(0, 3, 343, 1000), 4);
        due.fraction("four doubles", post, 3439, 10000);
        due.none("no fifth", post, post.relay(0, 3, 344, 1000), 6);
        post.road(0, 3, -1, 0);
        due.none("no ROAD", post, post.relay(0, 3, 0, 1), 6);
        legs("of the one ahead, its ROADS gone", post, 0, 4, 3);
    }

    private static void relayRefused() {
        PigeonPost post = Posts.withTowns(2);
        post.road(0, 1, 10, 0);
        Posts.birds(post, 1, 1, 0);
        due.fine("surely", post, post.relay(0, 1, 1, 1), 1);
        due.none("like ones", post, post.relay(0, 0, 0, 1), 1);
        due.none("relay(0, 2, 0, 1)", post, post.relay(0, 2, 0, 1), 1);
        due.none("relay(-1, 1, 0, 1)", post, post.relay(-1, 1, 0, 1), 1);
        due.none("n -1", post, post.relay(0, 1, -1, 1), 1);
        due.none("n above d", post, post.relay(0, 1, 2, 1), 1);
        due.none("d 0", post, post.relay(0, 1, 0, 0), 1);
        due.none("d 1001", post, post.relay(0, 1, 1, 1001), 1);
        due.fine("n 0, d 1000", post, post.relay(0, 1, 0, 1000), 1);
    }

    private static void leastMinutes() {
        PigeonPost post = Posts.withTowns(4);
        post.road(0, 1, 20, 0);
        post.road(1, 3, 20, 0);
        post.road(0, 2, 20, 0);
        post.road(2, 3, 19, 0);
        post.road(0, 3, 500, 5);
        Posts.birds(post, 2, 3, 0);
        Posts.birds(post, 1, 1, 0);
        Posts.birds(post, 1, 2, 0);
        Posts.birds(post, 1, 3, 1);
        Posts.birds(post, 1, 3, 2);
        due.fine("over 2: fewer MINUTES", post, post.relay(0, 3, 3, 4), 2);
        legs("over 2", post, 0, 1, 2, 1, 3);
        post.road(0, 3, 38, 5);
        due.fine("doubles: fewer MINUTES", post, post.relay(0, 3, 3, 4), 2);
        legs("doubles", post, 0, 2, 3);
        due.fine("fewer birds", post, post.relay(0, 3, 1, 2), 1);
    }

    private static void firstByTowns() {
        PigeonPost post = Posts.withTowns(5);
        for (int town = 1; town < 5; town++) post.road(0, town, 20, 0);
        for (int town = 1; town < 5; town++) if (town != 3) post.road(town, 3, 20, 0);
        post.road(0, 3, 40, 5);
        for (int town = 1; town < 5; town++) Posts.birds(post, 1, town, 0);
        Posts.birds(post, 1, 3, 0);
        Posts.birds(post, 1, 3, 4);
        due.fine("3 ahead of 4", post, post.relay(0, 3, 3, 4), 2);
        legs("3 ahead of 4", post, 0, 2, 3);
        Posts.birds(post, 1, 3, 2);
        due.fine("2 ahead of 3", post, post.relay(0, 3, 3, 4), 2);
        legs("2 ahead of 3", post, 0, 1, 2, 1, 3);
        Posts.birds(post, 1, 3, 1);
        due.fine("1 ahead of 2", post, post.relay(0, 3, 3, 4), 2);
        legs("1 ahead of 2", post, 0, 1, 1, 1, 3);
    }

    private static void firstByDoubles() {
        PigeonPost post = Posts.withTowns(3);
        post.road(0, 1, 20, 5);
        post.road(1, 2, 20, 5);
        Posts.birds(post, 2, 1, 0);
        Posts.birds(post, 2, 2, 1);
        due.fine("1 and 2 ahead of 2 and 1", post, post.relay(0, 2, 3, 8), 3);
        legs("1 and 2", post, 0, 1, 1, 2, 2);
        post.road(0, 1, 20, 6);
        due.fine("2 and 1 where they must", post, post.relay(0, 2, 31, 100), 3);
        legs("2 and 1", post, 0, 2, 1, 1, 2);
    }

    private static void mostRoads() {
        PigeonPost post = Posts.withTowns(10);
        for (int town = 0; town < 4; town++) {
            post.road(town, town + 1, 500, 9);
            Posts.birds(post, 5, town + 1, town);
        }
        due.fine("three ROADS", post, post.relay(0, 3, 0, 1), 3);
        due.fraction("three ROADS", post, 1, 1000);
        legs("three ROADS", post, 0, 1, 1, 1, 2, 1, 3);
        due.fine("four doubles each", post, post.relay(0, 3, 40, 1000), 12);
        due.fraction("four doubles each", post, 3439L * 3439 * 3439, 1000000000000L);
        due.none("not five", post, post.relay(0, 3, 41, 1000), 6);
        due.none("not four ROADS", post, post.relay(0, 4, 0, 1), 6);
    }

    private static void birdsThatCount() {
        PigeonPost post = Posts.withTowns(3);
        post.road(0, 1, 10, 5);
        post.bird(1);
        due.none("at HOME", post, post.relay(0, 1, 0, 1), 6);
        post.carry(0, 2);
        due.none("elsewhere", post, post.relay(0, 1, 0, 1), 6);
        post.carry(0, 0);
        due.fine("at its beginning", post, post.relay(0, 1, 1, 2), 1);
        due.none("one only", post, post.relay(0, 1, 3, 4), 6);
        Posts.letter(post, 0, 1, 0);
        post.fly(0, 0, 5);
        due.none("it FLIES", post, post.relay(0, 1, 0, 1), 6);
        post.comes(0, -1, -1, 9);
        post.carry(0, 0);
        due.fine("at REST", post, post.relay(0, 1, 1, 2), 1);
        Posts.birds(post, 1, 0, 1);
        due.fine("the other way another one", post, post.relay(1, 0, 1, 2), 1);
        legs("the other way", post, 1, 1, 0);
    }

    private static void leg() {
        PigeonPost post = Posts.withTowns(2);
        due.none("leg(0, 0) of none", post, post.leg(0, 0), 6);
        due.none("leg(3, 0) of none", post, post.leg(3, 0), 1);
        due.none("leg(0, 3) of none", post, post.leg(0, 3), 1);
        post.road(0, 1, 10, 0);
        Posts.birds(post, 1, 1, 0);
        post.relay(0, 1, 1, 1);
        due.none("leg(-1, 0)", post, post.leg(-1, 0), 1);
        due.none("leg(0, -1)", post, post.leg(0, -1), 1);
        due.none("leg(3, 0)", post, post.leg(3, 0), 1);
        due.none("leg(0, 3)", post, post.leg(0, 3), 1);
        due.none("leg(1, 0)", post, post.leg(1, 0), 6);
        due.none("leg(2, 2)", post, post.leg(2, 2), 6);
        due.fine("leg(0, 0)", post, post.leg(0, 0), 0);
        due.fine("leg(0, 1)", post, post.leg(0, 1), 1);
        due.fine("leg(0, 2)", post, post.leg(0, 2), 1);
    }
}
