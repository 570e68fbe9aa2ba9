import java.util.function.BiFunction;

/**
 * STATUS (term 6, and each promise's own list): every call of the face that can be refused, on one scene, with all
 * its arguments drawn from rows of good and bad ones, each with each. Of all that speaks against a call the first
 * in the document's order is due.
 */
public final class StatusTest {
    private static final Due due = new Due("StatusTest");
    private static final int NOW = 200;
    private static final int[] SOME_TOWNS = {Integer.MIN_VALUE, -1, 0, 1, 2, 3, 10, Integer.MAX_VALUE};
    private static final int[] SOME_TRAYS = {-1, 0, 1, 2, 3, 4, Integer.MAX_VALUE};
    private static final int[] SOME_PLACES = {Integer.MIN_VALUE, -1, 0, 1, 2, 3, Integer.MAX_VALUE};
    private static final int[] SOME_BIRDS = {-1, 0, 1, 2, 3, 4, 5, 6, 60};
    private static final int[] SOME_LETTERS = {-1, 0, 1, 2, 40};
    private static final int[] SOME_MINUTES = {-1, 0, NOW - 1, NOW, NOW + 59, NOW + 60, 100000, 100001};
    // the scene: how long its TRAYS are (2 is MISSING), which sort they have, how they begin
    private static final int[] LENGTHS = {3, 2, -1, 1};
    private static final int[] SORTS = {1, 1, -1, 2};
    private static final int[] GOOD_NUMBERS = {1, 2, 0, 1};
    // BIRDS: at HOME, away, away without a ROAD, it FLIES, LOST, away and at REST
    private static final boolean[] BIRD_WAITS = {true, true, true, false, false, true};
    private static final boolean[] BIRD_AT_HOME = {true, false, false, false, false, false};
    private static final boolean[] BIRD_HAS_ROAD = {false, true, false, false, false, true};
    private static final int REST_OF_5 = NOW + 60;

    public static void main(String[] args) {
        trays();
        towns();
        birds();
        surety();
        relays();
        baskets();
        letters();
        flights();
        clocks();
        due.end();
    }

    /** TOWNS 0, 1, 2, a ROAD of 0 and 1; LETTER 0 of 3 bytes is known in 0, LETTER 1 in 2; the minute is NOW. */
    private static PigeonPost scene() {
        PigeonPost post = Posts.withTowns(3);
        post.road(0, 1, 30, 5);
        post.bird(0);
        for (int bird = 1; bird < 6; bird++) post.carry(post.bird(bird == 2 ? 2 : 1), 0);
        Posts.fill(post, 1, 1, 1, 2, 3);
        post.letter(0, 1, 3, 0);
        post.letter(2, 1, 1, 0);
        post.fly(4, 0, 1);
        post.lose(4, 2);
        post.fly(5, 0, 3);
        post.fly(3, 0, 4);
        Posts.fill(post, 0, 1, 1, 0, 3);
        Posts.fill(post, 1, 1, 255, 7);
        Posts.fill(post, 3, 2, 9);
        post.reading(0, NOW - 10, 500);
        post.comes(5, 0, 2, NOW);
        post.carry(5, 0);
        return post;
    }

    /** The STATUS ahead of the first sentence that holds; pairs of STATUS (an int) and sentence (a boolean). */
    private static int first(Object... pairs) {
        for (int i = 0; i < pairs.length; i += 2) if ((Boolean) pairs[i + 1]) return (Integer) pairs[i];
        return 0;
    }

    /** All rows of arguments: to each the call is made on a scene of its own. */
    private static void each(String call, BiFunction<PigeonPost, int[], Long> ask,
            BiFunction<PigeonPost, int[], Integer> dueStatus, long refused, int[]... choices) {
        int ways = 1;
        for (int[] choice : choices) ways *= choice.length;
        for (int way = 0; way < ways; way++) {
            int[] arguments = new int[choices.length];
            StringBuilder name = new StringBuilder(call);
            int rest = way;
            for (int i = 0; i < choices.length; i++) {
                arguments[i] = choices[i][rest % choices[i].length];
                rest /= choices[i].length;
                name.append(' ').append(arguments[i]);
            }
            PigeonPost post = scene();
            int status = dueStatus.apply(post, arguments);
            long answer = ask.apply(post, arguments);
            due.is(name + ", status()", post.status(), status);
            if (status != 0) due.is(name.toString(), answer, refused);
            if (status == 0 && refused == 0) due.is(name.toString(), answer, 1);
        }
    }

    private static void isTrue(String call, BiFunction<PigeonPost, int[], Boolean> ask,
            BiFunction<PigeonPost, int[], Integer> dueStatus, int[]... choices) {
        each(call, (post, n) -> ask.apply(post, n) ? 1L : 0L, dueStatus, 0, choices);
    }

    private static boolean out(int v, int least, int most) {
        return v < least || v > most;
    }

    private static boolean noTown(int town) {
        return out(town, 0, 2);
    }

    private static boolean noTray(int tray) {
        return out(tray, 0, 3);
    }

    private static boolean noMinute(int minute) {
        return out(minute, 0, 100000);
    }

    private static boolean noBird(int bird) {
        return out(bird, 0, 5);
    }

    private static boolean noLetter(int letter) {
        return out(letter, 0, 1);
    }

    private static boolean isMissing(int tray) {
        return tray == 2;
    }

    private static boolean noRoad(int a, int b) {
        return !(a == 0 && b == 1 || a == 1 && b == 0);
    }

    private static int placeStatus(int tray, int place) {
        if (noTray(tray)) return 1;
        return first(3, isMissing(tray), 4, place < 0 || place >= LENGTHS[tray]);
    }

    private static void trays() {
        isTrue("tray", (post, n) -> post.tray(n[0], n[1], n[2]),
            (post, n) -> first(1, noTray(n[0]), 1, out(n[1], 0, 3), 1, out(n[2], 0, 60)),
            SOME_TRAYS, new int[] {-1, 0, 1, 2, 3, 4}, new int[] {-1, 0, 60, 61, Integer.MAX_VALUE});
        isTrue("write", (post, n) -> post.write(n[0], n[1], 5), (post, n) -> placeStatus(n[0], n[1]),
            SOME_TRAYS, SOME_PLACES);
        each("read", (post, n) -> post.read(n[0], n[1]), (post, n) -> placeStatus(n[0], n[1]), -1,
            SOME_TRAYS, SOME_PLACES);
        isTrue("pour", (post, n) -> post.pour(n[0], n[1], n[2], n[3], n[4]), StatusTest::pourStatus,
            SOME_TRAYS, SOME_PLACES, SOME_TRAYS, SOME_PLACES, SOME_PLACES);
    }

    private static int pourStatus(PigeonPost post, int[] n) {
        if (noTray(n[0]) || noTray(n[2])) return 1;
        return first(1, n[1] < 0 || n[3] < 0 || n[4] < 0,
            3, isMissing(n[0]) || isMissing(n[2]),
            8, SORTS[n[0]] != SORTS[n[2]],
            4, (long) n[1] + n[4] > LENGTHS[n[0]] || (long) n[3] + n[4] > LENGTHS[n[2]]);
    }

    private static void towns() {
        isTrue("road", (post, n) -> post.road(n[0], n[1], n[2], n[3]),
            (post, n) -> first(1, noTown(n[0]) || noTown(n[1]), 1, n[0] == n[1], 1, out(n[3], 0, 9),
                1, n[2] != -1 && out(n[2], 1, 500), 6, n[2] == -1 && noRoad(n[0], n[1])),
            SOME_TOWNS, SOME_TOWNS, new int[] {-2, -1, 0, 1, 500, 501}, new int[] {-1, 0, 9, 10});
        isTrue("fare", (post, n) -> post.fare(n[0], n[1], n[2]),
            (post, n) -> first(1, noTown(n[0]) || noTown(n[1]), 1, n[0] == n[1], 1, out(n[2], 0, 1000)),
            SOME_TOWNS, SOME_TOWNS, new int[] {-1, 0, 1000, 1001});
        each("waits", (post, n) -> (long) post.waits(n[0], n[1]),
            (post, n) -> first(1, noTown(n[0]) || noTown(n[1])), -1, SOME_TOWNS, SOME_TOWNS);
    }

    private static void birds() {
        each("bird", (post, n) -> (long) post.bird(n[0]), (post, n) -> first(1, noTown(n[0])), -1, SOME_TOWNS);
        each("a 61st bird", (post, n) -> {
            for (int i = 0; i < 60; i++) post.bird(0);
            return (long) post.bird(n[0]);
        }, (post, n) -> first(1, noTown(n[0]), 5, true), -1, SOME_TOWNS);
        isTrue("carry", (post, n) -> post.carry(n[0], n[1]),
            (post, n) -> noBird(n[0]) || noTown(n[1]) ? 1 : first(7, !BIRD_WAITS[n[0]]), SOME_BIRDS, SOME_TOWNS);
        each("told", (post, n) -> (long) post.told(n[0], n[1]),
            (post, n) -> first(1, noBird(n[0]), 1, out(n[1], 0, 4)), -1, SOME_BIRDS, new int[] {-1, 0, 1, 2, 3, 4, 5});
    }

    private static void surety() {
        each("sure", (post, n) -> (long) post.sure(n[0], n[1], n[2]),
            (post, n) -> first(1, noTown(n[0]) || noTown(n[1]), 1, n[0] == n[1], 1, out(n[2], 1, 4),
                6, noRoad(n[0], n[1])),
            -1, SOME_TOWNS, SOME_TOWNS, new int[] {-1, 0, 1, 4, 5});
        // the ROAD has LOSS 5: 15 of 16 at most
        each("doubles", (post, n) -> (long) post.doubles(n[0], n[1], n[2], n[3]),
            (post, n) -> first(1, noTown(n[0]) || noTown(n[1]), 1, out(n[3], 1, 1000), 1, out(n[2], 0, n[3]),
                6, noRoad(n[0], n[1]), 6, 16 * n[2] > 15 * n[3]),
            -1, SOME_TOWNS, SOME_TOWNS, new int[] {-1, 0, 15, 16, 937, 938, 1000, 1001},
            new int[] {Integer.MIN_VALUE, -1, 0, 1, 16, 1000, 1001});
    }

    private static void relays() {
        // of the HOME 1 two BIRDS WAIT in 0 (1 and 5): 3 of 4 at most, and no other RELAY
        each("relay", (post, n) -> (long) post.relay(n[0], n[1], n[2], n[3]),
            (post, n) -> first(1, noTown(n[0]) || noTown(n[1]), 1, n[0] == n[1], 1, out(n[3], 1, 1000),
                1, out(n[2], 0, n[3]), 6, n[0] != 0 || n[1] != 1, 6, 4 * n[2] > 3 * n[3]),
            -1, SOME_TOWNS, SOME_TOWNS, new int[] {-1, 0, 3, 4, 750, 751, 1000, 1001},
            new int[] {Integer.MIN_VALUE, -1, 0, 1, 4, 1000, 1001});
        int[] some = {Integer.MIN_VALUE, -1, 0, 1, 2, 3, Integer.MAX_VALUE};
        each("leg of none", (post, n) -> (long) post.leg(n[0], n[1]),
            (post, n) -> first(1, out(n[0], 0, 2), 1, out(n[1], 0, 2), 6, true), -1, some, some);
        each("leg", (post, n) -> {
            post.relay(0, 1, 0, 1);
            return (long) post.leg(n[0], n[1]);
        }, (post, n) -> first(1, out(n[0], 0, 2), 1, out(n[1], 0, 2), 6, n[0] > 0), -1, some, some);
    }

    private static void baskets() {
        isTrue("want", (post, n) -> post.want(n[0], n[1], n[2], n[3]),
            (post, n) -> first(1, noTown(n[0]) || noTown(n[1]), 1, n[0] == n[1], 1, out(n[2], 0, 20),
                1, out(n[3], 1, 100)),
            SOME_TOWNS, SOME_TOWNS, new int[] {-1, 0, 20, 21}, new int[] {-1, 0, 1, 100, 101});
        each("lack", (post, n) -> (long) post.lack(n[0], n[1]), StatusTest::twoTowns, -1, SOME_TOWNS, SOME_TOWNS);
        each("carried", (post, n) -> (long) post.carried(n[0], n[1]), StatusTest::twoTowns, -1, SOME_TOWNS, SOME_TOWNS);
        each("carrying", (post, n) -> (long) post.carrying(n[0]), StatusTest::oneTown, -1, SOME_TOWNS);
        each("fares", (post, n) -> (long) post.fares(n[0]), StatusTest::oneTown, -1, SOME_TOWNS);
        each("send", (post, n) -> (long) post.send(n[0]), StatusTest::oneTown, -1, SOME_TOWNS);
    }

    private static int oneTown(PigeonPost post, int[] n) {
        return first(1, noTown(n[0]));
    }

    private static int twoTowns(PigeonPost post, int[] n) {
        return first(1, noTown(n[0]) || noTown(n[1]), 1, n[0] == n[1]);
    }

    private static int letterStatus(int[] n, boolean full) {
        if (noTown(n[0]) || noTray(n[1]) || out(n[2], 1, 40) || noMinute(n[3])) return 1;
        return first(2, n[3] < NOW, 3, isMissing(n[1]), 4, n[2] > LENGTHS[n[1]], 1, n[2] > GOOD_NUMBERS[n[1]], 5, full);
    }

    private static void letters() {
        int[] many = {-1, 0, 1, 2, 3, 4, 40, 41};
        each("letter", (post, n) -> (long) post.letter(n[0], n[1], n[2], n[3]), (post, n) -> letterStatus(n, false), -1,
            SOME_TOWNS, SOME_TRAYS, many, SOME_MINUTES);
        each("a 41st letter", (post, n) -> {
            for (int i = 2; i < 40; i++) post.letter(0, 3, 1, NOW);
            return (long) post.letter(n[0], n[1], n[2], n[3]);
        }, (post, n) -> letterStatus(n, true), -1, new int[] {0, 3}, SOME_TRAYS, many, SOME_MINUTES);
        each("knows", (post, n) -> (long) post.knows(n[0], n[1]),
            (post, n) -> first(1, noLetter(n[0]) || noTown(n[1]), 7, n[1] != (n[0] == 0 ? 0 : 2)), -1,
            SOME_LETTERS, SOME_TOWNS);
        each("joined", (post, n) -> (long) post.joined(n[0], n[1], n[2]),
            (post, n) -> first(1, noLetter(n[0]) || noTown(n[1]), 6, out(n[2], 0, n[0] == 0 ? 2 : 0)), -1,
            SOME_LETTERS, SOME_TOWNS, new int[] {Integer.MIN_VALUE, -1, 0, 1, 2, 3, 39, 40, Integer.MAX_VALUE});
        each("copies", (post, n) -> (long) post.copies(n[0], n[1]),
            (post, n) -> first(1, noLetter(n[0]), 1, out(n[1], 0, 2)), -1, SOME_LETTERS, new int[] {-1, 0, 1, 2, 3});
    }

    private static void flights() {
        isTrue("fly", (post, n) -> post.fly(n[0], n[1], n[2]), (post, n) -> {
            if (noBird(n[0]) || noLetter(n[1]) || noMinute(n[2])) return 1;
            return first(2, n[2] < NOW,
                7, !BIRD_WAITS[n[0]], 7, n[0] == 5 && n[2] < REST_OF_5, 7, BIRD_AT_HOME[n[0]],
                6, !BIRD_HAS_ROAD[n[0]], 7, n[1] == 1);
        }, SOME_BIRDS, SOME_LETTERS, SOME_MINUTES);
        int[] places = {Integer.MIN_VALUE, -2, -1, 0, 1, 2, 3, 39, 40, Integer.MAX_VALUE};
        each("comes", (post, n) -> (long) post.comes(n[0], n[1], n[2], n[3]), (post, n) -> {
            boolean whole = n[1] == -1 && n[2] == -1;
            int last = n[0] == 3 ? 2 : 39;
            boolean torn = !out(n[1], 0, last) && !out(n[2], 0, last) && n[1] <= n[2];
            return first(1, noBird(n[0]), 1, noMinute(n[3]), 1, !whole && !torn, 2, n[3] < NOW, 7, n[0] != 3);
        }, -1, SOME_BIRDS, places, places, SOME_MINUTES);
        isTrue("lose", (post, n) -> post.lose(n[0], n[1]),
            (post, n) -> first(1, noBird(n[0]), 1, noMinute(n[1]), 2, n[1] < NOW, 7, n[0] != 3), SOME_BIRDS, SOME_MINUTES);
    }

    private static void clocks() {
        int[] numbers = {-1, 0, 499, 500, 501, 200000, 200001};
        // TOWN 0 has one READING: 500 at NOW - 10
        isTrue("reading", (post, n) -> post.reading(n[0], n[1], n[2]),
            (post, n) -> first(1, noTown(n[0]), 1, noMinute(n[1]), 1, out(n[2], 0, 200000), 2, n[1] < NOW,
                1, n[0] == 0 && n[2] <= 500), SOME_TOWNS, SOME_MINUTES, numbers);
        isTrue("an 11th reading", (post, n) -> {
            for (int i = 1; i < 10; i++) post.reading(0, NOW + i, 500 + i);
            return post.reading(n[0], n[1], n[2]);
        }, (post, n) -> first(1, noTown(n[0]), 1, noMinute(n[1]), 1, out(n[2], 0, 200000), 2, n[1] < NOW + 9,
            1, n[0] == 0 && (n[1] == NOW + 9 || n[2] <= 509), 5, n[0] == 0),
            SOME_TOWNS, new int[] {-1, NOW + 8, NOW + 9, NOW + 10, 100000, 100001}, numbers);
        each("right", (post, n) -> (long) post.right(n[0], n[1]),
            (post, n) -> first(1, noTown(n[0]), 1, out(n[1], 0, 200000), 6, n[0] != 0), -1, SOME_TOWNS, numbers);
    }
}
