import java.math.BigInteger;

/** Terms 1 to 5: each sentence that names a bound, at the bound and beyond it, in a test of its own. */
public final class TermsTest {
    private static final Due due = new Due("TermsTest");

    public static void main(String[] args) {
        traysAreMissingAtFirst();
        traysOf0To60();
        numbersOfSoManyBits();
        atMostTenTowns();
        roadsGoBothWays();
        lossOf0To9();
        noBirdFliesBetweenOthers();
        faresAre10AtFirst();
        aBasketHoldsSix();
        atMost60Birds();
        restUntilMinute0AtFirst();
        minutesFrom0To100000();
        noMinuteGoesBack();
        suretyOf1To4();
        relaysOf1To3Roads();
        noMoreDoublesThanThereAre();
        suretyOfJustNByD();
        nothingIsWantedAtFirst();
        noMoreThanIsLacked();
        noMoreThanWaitAtHome();
        atMost40Letters();
        lettersOf1To40Bytes();
        bytesOf1To255();
        aCopyGoesFromATownThatKnows();
        tornFromAnyPlaceToAnyPlace();
        atRestFor60Minutes();
        knownFromTheFirstComing();
        atMostTenReadings();
        readingsRise();
        readingsFrom0To200000();
        rightBetweenAheadAndBehind();
        fractionsWithoutACommonDivisor();
        aRefusedCallTellsNoFraction();
        due.end();
    }

    // ---- term 1

    private static void traysAreMissingAtFirst() {
        PigeonPost post = Posts.withTowns(1);
        post.tray(0, 0, 2);
        for (int tray = 1; tray < 4; tray++) {
            due.none("read", post, post.read(tray, 0), 3);
            due.not("write", post, post.write(tray, 0, 1), 3);
            due.not("pour from", post, post.pour(tray, 0, 0, 0, 1), 3);
            due.not("pour to", post, post.pour(0, 0, tray, 0, 1), 3);
            due.not("pour to itself", post, post.pour(tray, 0, tray, 0, 0), 3);
            due.none("letter", post, post.letter(0, tray, 1, 0), 3);
        }
    }

    private static void traysOf0To60() {
        PigeonPost post = new PigeonPost();
        for (int many = 0; many <= 60; many++) {
            int tray = many % 4;
            due.fine("tray of " + many, post, post.tray(tray, 1, many));
            if (many > 0) due.not("write behind it", post, post.write(tray, many, 1), 4);
            if (many > 0) due.fine("write at its end", post, post.write(tray, many - 1, 1));
            due.none("read behind it", post, post.read(tray, many), 4);
        }
        due.not("tray of -1", post, post.tray(0, 1, -1), 1);
        due.not("tray of 61", post, post.tray(0, 1, 61), 1);
        due.fine("it is as it was", post, post.read(0, 59), 1);
    }

    private static void numbersOfSoManyBits() {
        PigeonPost post = new PigeonPost();
        for (int sort = 0; sort < 4; sort++) {
            int bits = 8 << sort;
            BigInteger half = BigInteger.ONE.shiftLeft(bits - 1);
            post.tray(sort, sort, 3);
            BigInteger[] near = {half.negate(), half.subtract(BigInteger.ONE), half, half.negate().subtract(BigInteger.ONE),
                half.shiftLeft(1), half.shiftLeft(1).add(BigInteger.TWO), BigInteger.ZERO, BigInteger.ONE.negate()};
            for (BigInteger v : near) {
                // the number with the same last bits from -half up to half
                BigInteger cut = v.add(half).mod(half.shiftLeft(1)).subtract(half);
                due.fine("write " + v, post, post.write(sort, 1, v.longValue()));
                due.fine("read " + v + " of sort " + sort, post, post.read(sort, 1), cut.longValue());
            }
            due.fine("the place ahead", post, post.read(sort, 0), 0);
            due.fine("the place behind", post, post.read(sort, 2), 0);
        }
    }

    private static void atMostTenTowns() {
        PigeonPost post = Posts.withTowns(9);
        due.none("not yet", post, post.bird(9), 1);
        due.fine("the 10th", post, post.town(), 9);
        for (int i = 0; i < 3; i++) due.none("one too many", post, post.town(), 5);
        due.none("no TOWN 10", post, post.waits(10, 0), 1);
        due.not("no ROAD to it", post, post.road(9, 10, 5, 5), 1);
        due.fine("a ROAD to the 10th", post, post.road(9, 0, 5, 5));
    }

    private static void roadsGoBothWays() {
        PigeonPost post = Posts.withTowns(10);
        due.fine("1 minute", post, post.road(9, 8, 1, 4));
        due.fine("500 minutes", post, post.road(8, 7, 500, 4));
        due.not("0 minutes", post, post.road(9, 8, 0, 4), 1);
        due.not("501 minutes", post, post.road(8, 7, 501, 4), 1);
        int[][] ways = {{8, 9}, {9, 8}, {7, 8}, {8, 7}};
        for (int[] way : ways) {
            due.fine("sure", post, post.sure(way[0], way[1], 1), 1);
            due.fraction("sure", post, 3, 5);
            due.fine("doubles", post, post.doubles(way[0], way[1], 3, 5), 1);
            Posts.birds(post, 1, way[1], way[0]);
            due.fine("relay", post, post.relay(way[0], way[1], 3, 5), 1);
        }
        Posts.letter(post, 8, 1, 0);
        Posts.letter(post, 9, 1, 0);
        due.fine("a flight to 9", post, post.fly(0, 0, 0));
        due.fine("a flight to 8", post, post.fly(1, 1, 0));
        post.road(8, 9, -1, 0);
        due.none("none any more", post, post.sure(9, 8, 1), 6);
        due.none("nor back", post, post.sure(8, 9, 1), 6);
        due.fine("the other one stays", post, post.sure(7, 8, 1), 1);
    }

    private static void lossOf0To9() {
        PigeonPost post = Posts.withTowns(2);
        int[] tops = {1, 9, 4, 7, 3, 1, 2, 3, 1, 1};
        int[] bottoms = {1, 10, 5, 10, 5, 2, 5, 10, 5, 10};
        for (int loss = 0; loss < 10; loss++) {
            due.fine("road, loss " + loss, post, post.road(0, 1, 10, loss));
            post.sure(1, 0, 1);
            due.fraction("loss " + loss, post, tops[loss], bottoms[loss]);
        }
        due.not("loss -1", post, post.road(0, 1, 10, -1), 1);
        due.not("loss 10", post, post.road(0, 1, 10, 10), 1);
    }

    private static void noBirdFliesBetweenOthers() {
        PigeonPost post = Posts.withTowns(3);
        post.road(0, 1, 10, 0);
        post.road(1, 2, 10, 0);
        Posts.letter(post, 0, 1, 0);
        Posts.birds(post, 1, 2, 0);
        due.not("no ROAD of 0 and 2", post, post.fly(0, 0, 0), 6);
        due.fine("it still WAITS", post, post.told(0, 1), 0);
        due.fine("no COPY flew off", post, post.copies(0, 0), 0);
        due.none("surety", post, post.sure(0, 2, 1), 6);
        due.none("relay", post, post.relay(0, 2, 0, 1), 6);
    }

    private static void faresAre10AtFirst() {
        PigeonPost post = Posts.withTowns(10);
        Posts.birds(post, 6, 4, 4);
        for (int town = 0; town < 10; town++) {
            if (town == 4) continue;
            post.want(town, 4, 6, 1);
            due.fine("10 to " + town, post, post.fares(4), 10);
            due.fine("1000 to " + town, post, post.fare(4, town, 1000));
            due.fine("fares(4)", post, post.fares(4), 1000);
            due.not("1001", post, post.fare(4, town, 1001), 1);
            due.not("-1", post, post.fare(4, town, -1), 1);
            due.fine("it stays", post, post.fares(4), 1000);
            due.fine("from " + town + " by itself", post, post.fare(town, 4, 7));
            due.fine("it stays", post, post.fares(4), 1000);
            due.fine("0 to " + town, post, post.fare(4, town, 0));
            due.fine("fares(4)", post, post.fares(4), 0);
            post.want(town, 4, 0, 1);
        }
    }

    private static void aBasketHoldsSix() {
        PigeonPost post = Posts.withTowns(2);
        Posts.birds(post, 20, 0, 0);
        post.fare(0, 1, 100);
        int[] baskets = {0, 1, 1, 1, 1, 1, 1, 2, 2, 2, 2, 2, 2, 3, 3, 3, 3, 3, 3, 4, 4};
        for (int many = 0; many <= 20; many++) {
            post.want(1, 0, many, 3);
            due.fine("BASKETS of " + many, post, post.fares(0), 100 * baskets[many]);
            due.fine("carrying of " + many, post, post.carrying(0), 3 * many);
        }
    }

    private static void atMost60Birds() {
        PigeonPost post = Posts.withTowns(1);
        for (int i = 0; i < 60; i++) due.fine("bird", post, post.bird(0), i);
        for (int i = 0; i < 3; i++) due.none("one too many", post, post.bird(0), 5);
        due.fine("60 WAIT", post, post.waits(0, 0), 60);
        due.none("no BIRD 60", post, post.told(60, 2), 1);
        due.fine("BIRD 59", post, post.told(59, 2), 0);
    }

    private static void restUntilMinute0AtFirst() {
        PigeonPost post = Posts.withTowns(2);
        post.road(0, 1, 10, 0);
        Posts.letter(post, 0, 1, 0);
        Posts.birds(post, 1, 1, 0);
        due.fine("until 0", post, post.told(0, 3), 0);
        due.fine("so it flies at 0", post, post.fly(0, 0, 0));
    }

    /** A call that has a minute: which of the five. */
    private static boolean atMinute(PigeonPost post, int which, int minute) {
        switch (which) {
            case 0: return post.letter(0, 0, 1, minute) >= 0;
            case 1: return post.fly(0, 0, minute);
            case 2: return post.comes(1, -1, -1, minute) >= 0;
            case 3: return post.lose(2, minute);
            default: return post.reading(0, minute, 9);
        }
    }

    /** BIRD 0 may fly off, 1 and 2 FLY; all that could be told at a minute goes well from the latest one (0) on. */
    private static PigeonPost readyForMinutes() {
        PigeonPost post = Posts.withTowns(2);
        post.road(0, 1, 10, 0);
        Posts.fill(post, 0, 1, 1);
        post.letter(0, 0, 1, 0);
        Posts.birds(post, 3, 1, 0);
        post.fly(1, 0, 0);
        post.fly(2, 0, 0);
        return post;
    }

    private static void minutesFrom0To100000() {
        for (int which = 0; which < 5; which++) {
            PigeonPost post = readyForMinutes();
            due.not("minute -1 of " + which, post, atMinute(post, which, -1), 1);
            due.not("minute 100001 of " + which, post, atMinute(post, which, 100001), 1);
            due.not("minute min of " + which, post, atMinute(post, which, Integer.MIN_VALUE), 1);
            due.not("minute max of " + which, post, atMinute(post, which, Integer.MAX_VALUE), 1);
            due.fine("minute 0 of " + which, post, atMinute(post, which, 0));
            PigeonPost late = readyForMinutes();
            due.fine("minute 100000 of " + which, late, atMinute(late, which, 100000));
        }
    }

    private static void noMinuteGoesBack() {
        for (int set = 0; set < 5; set++) {
            for (int which = 0; which < 5; which++) {
                if (which == set) continue;
                String call = "call " + which + " behind call " + set;
                PigeonPost post = readyForMinutes();
                due.fine(call, post, atMinute(post, set, 70));
                due.not(call + ", at 69", post, atMinute(post, which, 69), 2);
                due.not(call + ", at 0", post, atMinute(post, which, 0), 2);
                due.fine(call + ", at 70", post, atMinute(post, which, 70));
            }
        }
    }

    // ---- term 2

    private static void suretyOf1To4() {
        PigeonPost post = Posts.withTowns(2);
        for (int loss = 0; loss < 10; loss++) {
            post.road(0, 1, 10, loss);
            for (int k = 1; k <= 4; k++) {
                BigInteger bottom = BigInteger.TEN.pow(k);
                BigInteger top = bottom.subtract(BigInteger.valueOf(loss).pow(k));
                BigInteger divisor = top.gcd(bottom);
                due.fine("sure", post, post.sure(0, 1, k), 1);
                due.fraction("loss " + loss + ", " + k + " doubles", post,
                    top.divide(divisor).longValueExact(), bottom.divide(divisor).longValueExact());
            }
            due.none("0 doubles", post, post.sure(0, 1, 0), 1);
            due.none("5 doubles", post, post.sure(0, 1, 5), 1);
        }
    }

    private static void relaysOf1To3Roads() {
        PigeonPost post = Posts.withTowns(10);
        for (int town = 9; town > 0; town--) {
            post.road(town, town - 1, 10, 0);
            Posts.birds(post, 1, town - 1, town);
        }
        for (int roads = 1; roads <= 3; roads++) due.fine(roads + " ROADS", post, post.relay(9, 9 - roads, 1, 1), roads);
        for (int roads = 4; roads <= 9; roads++) due.none(roads + " ROADS", post, post.relay(9, 9 - roads, 1, 1), 6);
        due.fine("its last beginning", post, post.leg(2, 0), 7);
        due.fine("its end", post, post.leg(2, 1), 6);
    }

    private static void noMoreDoublesThanThereAre() {
        PigeonPost post = Posts.withTowns(2);
        post.road(0, 1, 10, 9);
        int[] most = {100, 190, 271, 343, 343, 343};
        due.none("no double", post, post.relay(0, 1, 0, 1), 6);
        for (int birds = 1; birds <= 6; birds++) {
            Posts.birds(post, 1, 1, 0);
            due.fine(birds + " BIRDS", post, post.relay(0, 1, most[birds - 1], 1000), Math.min(4, birds));
            due.none(birds + " BIRDS, too much", post, post.relay(0, 1, most[birds - 1] + 1, 1000), 6);
        }
    }

    private static void suretyOfJustNByD() {
        PigeonPost post = Posts.withTowns(2);
        post.road(0, 1, 10, 3);
        Posts.birds(post, 4, 1, 0);
        int[] tops = {7, 91, 973};
        int[] bottoms = {10, 100, 1000};
        for (int k = 1; k <= 3; k++) {
            int n = tops[k - 1];
            int d = bottoms[k - 1];
            due.fine("doubles", post, post.doubles(0, 1, n, d), k);
            due.fine("relay", post, post.relay(0, 1, n, d), k);
            int more = n * (1000 / d) + 1;
            due.fine("doubles, a little more", post, post.doubles(0, 1, more, 1000), k + 1);
            due.fine("relay, a little more", post, post.relay(0, 1, more, 1000), k + 1);
        }
        due.none("four don't do", post, post.doubles(0, 1, 992, 1000), 6);
        due.none("nor here", post, post.relay(0, 1, 992, 1000), 6);
    }

    // ---- term 3

    private static void nothingIsWantedAtFirst() {
        PigeonPost post = Posts.withTowns(10);
        Posts.birds(post, 20, 3, 3);
        for (int town = 0; town < 10; town++) {
            for (int home = 0; home < 10; home++) {
                if (town != home) due.fine("lack", post, post.lack(town, home), 0);
                else due.none("lack, like ones", post, post.lack(town, home), 1);
            }
        }
        due.fine("carrying(3)", post, post.carrying(3), 0);
        due.fine("fares(3)", post, post.fares(3), 0);
        due.fine("send(3)", post, post.send(3), 0);
        due.fine("all still at HOME", post, post.waits(3, 3), 20);
    }

    private static void noMoreThanIsLacked() {
        PigeonPost post = Posts.withTowns(2);
        Posts.birds(post, 30, 0, 0);
        post.want(1, 0, 20, 100);
        for (int there = 0; there <= 22; there++) {
            due.fine("lack, " + there + " there", post, post.lack(1, 0), Math.max(0, 20 - there));
            due.fine("carried, " + there + " there", post, post.carried(0, 1), Math.max(0, 20 - there));
            post.carry(there, 1);
        }
        post.want(1, 0, 19, 100);
        due.fine("fewer WANTED than are there", post, post.lack(1, 0), 0);
    }

    private static void noMoreThanWaitAtHome() {
        PigeonPost post = Posts.withTowns(3);
        Posts.birds(post, 5, 0, 2);
        Posts.birds(post, 5, 2, 0);
        post.want(1, 0, 4, 10);
        for (int home = 0; home <= 5; home++) {
            due.fine("carrying, " + home + " at HOME", post, post.carrying(0), 10 * Math.min(4, home));
            due.fine("carried, " + home + " at HOME", post, post.carried(0, 1), Math.min(4, home));
            if (home < 5) post.carry(home, 0);
        }
        due.fine("send", post, post.send(0), 4);
        due.fine("one stays", post, post.told(4, 1), 0);
    }

    // ---- term 4

    private static void atMost40Letters() {
        PigeonPost post = Posts.withTowns(2);
        Posts.fill(post, 0, 3, 5);
        for (int i = 0; i < 40; i++) due.fine("letter", post, post.letter(i % 2, 0, 1, 50), i);
        for (int i = 0; i < 3; i++) due.none("one too many", post, post.letter(0, 0, 1, 60), 5);
        due.fine("the minute of a refused one isn't told", post, post.reading(0, 50, 1));
        due.none("no LETTER 40", post, post.copies(40, 0), 1);
        due.fine("LETTER 39", post, post.joined(39, 1, 0), 5);
    }

    private static void lettersOf1To40Bytes() {
        PigeonPost post = Posts.withTowns(2);
        post.tray(0, 2, 60);
        for (int i = 0; i < 60; i++) post.write(0, i, 200 - i);
        due.none("0 bytes", post, post.letter(0, 0, 0, 0), 1);
        due.none("41 bytes", post, post.letter(0, 0, 41, 0), 1);
        for (int many = 1; many <= 40; many++) {
            int letter = many - 1;
            due.fine(many + " bytes", post, post.letter(0, 0, many, 0), letter);
            due.fine("the last byte", post, post.joined(letter, 0, many - 1), 200 - (many - 1));
            due.none("beyond it", post, post.joined(letter, 0, many), 6);
            due.none("below 0", post, post.joined(letter, 0, -1), 6);
        }
    }

    private static void bytesOf1To255() {
        for (int first = 1; first <= 255; first += 40) {
            PigeonPost post = Posts.withTowns(1);
            int many = Math.min(40, 256 - first);
            post.tray(0, 1, many);
            for (int i = 0; i < many; i++) post.write(0, i, first + i);
            due.fine("letter from " + first, post, post.letter(0, 0, many, 0), 0);
            for (int i = 0; i < many; i++) due.fine("byte", post, post.joined(0, 0, i), first + i);
        }
        long[] wrong = {0, 256, 257, 511, -1, -255, -256, 1L << 32 | 1, Long.MIN_VALUE, Long.MAX_VALUE};
        for (long v : wrong) {
            PigeonPost post = Posts.withTowns(1);
            Posts.fill(post, 0, 3, 1, 2, v, 3);
            due.none(v + " among them", post, post.letter(0, 0, 3, 0), 1);
            due.fine(v + " behind them", post, post.letter(0, 0, 2, 0), 0);
        }
        PigeonPost post = Posts.withTowns(1);
        Posts.fill(post, 0, 0, 127, 128);
        due.none("128 of 8 bits is -128", post, post.letter(0, 0, 2, 0), 1);
    }

    private static void aCopyGoesFromATownThatKnows() {
        PigeonPost post = Posts.withTowns(3);
        post.road(0, 1, 10, 0);
        post.road(1, 2, 10, 0);
        Posts.letter(post, 0, 2, 10);
        Posts.birds(post, 2, 1, 0);
        Posts.birds(post, 1, 2, 1);
        due.not("not KNOWN at all", post, post.fly(2, 0, 10), 7);
        post.fly(0, 0, 10);
        post.fly(1, 0, 10);
        due.not("it is still on its way", post, post.fly(2, 0, 20), 7);
        post.comes(0, 1, 1, 20);
        due.not("one byte of two", post, post.fly(2, 0, 20), 7);
        post.comes(1, 0, 0, 30);
        due.fine("all bytes, at that minute", post, post.fly(2, 0, 30));
        due.fine("whole from there on", post, post.comes(2, -1, -1, 40), 1);
    }

    private static void tornFromAnyPlaceToAnyPlace() {
        int many = 7;
        for (int from = 0; from < many; from++) {
            for (int to = from; to < many; to++) {
                PigeonPost post = Posts.withTowns(2);
                post.road(0, 1, 10, 0);
                Posts.letter(post, 0, many, 0);
                Posts.birds(post, 1, 1, 0);
                post.fly(0, 0, 1);
                due.none("not below its bytes", post, post.comes(0, from, many, 2), 1);
                due.none("from above to", post, post.comes(0, to + 1, to, 2), 1);
                due.fine("torn", post, post.comes(0, from, to, 2), 0);
                for (int k = 0; k < many; k++) {
                    boolean torn = k >= from && k <= to;
                    due.fine("from " + from + " to " + to + ", byte " + k, post, post.joined(0, 1, k), torn ? 0 : k + 1);
                }
                due.none("not KNOWN", post, post.knows(0, 1), 7);
            }
        }
    }

    private static void atRestFor60Minutes() {
        PigeonPost post = Posts.withTowns(2);
        post.road(0, 1, 10, 0);
        Posts.letter(post, 0, 1, 0);
        Posts.birds(post, 1, 1, 0);
        int minute = 0;
        for (int i = 0; i < 3; i++) {
            due.fine("off", post, post.fly(0, 0, minute));
            minute += 10 * i;
            post.comes(0, -1, -1, minute);
            due.fine("until", post, post.told(0, 3), minute + 60);
            post.carry(0, 0);
            due.not("at once", post, post.fly(0, 0, minute), 7);
            due.not("59 minutes", post, post.fly(0, 0, minute + 59), 7);
            minute += 60;
        }
        due.fine("60 minutes", post, post.fly(0, 0, minute));
        due.fine("at the last minute", post, post.comes(0, -1, -1, 100000), 0);
        due.fine("until beyond it", post, post.told(0, 3), 100060);
    }

    private static void knownFromTheFirstComing() {
        PigeonPost post = Posts.withTowns(2);
        post.road(0, 1, 10, 0);
        Posts.letter(post, 0, 2, 5);
        Posts.birds(post, 4, 1, 0);
        Posts.birds(post, 2, 0, 1);
        for (int bird = 0; bird < 4; bird++) post.fly(bird, 0, 6);
        due.fine("the second byte", post, post.comes(0, 0, 0, 10), 0);
        due.fine("the second again", post, post.comes(1, 0, 0, 20), 0);
        due.fine("the first", post, post.comes(2, 1, 1, 30), 1);
        due.fine("whole, but later", post, post.comes(3, -1, -1, 40), 0);
        due.fine("from 30 on", post, post.knows(0, 1), 30);
        post.fly(4, 0, 50);
        post.fly(5, 0, 50);
        due.fine("back where it was told, torn", post, post.comes(4, 0, 1, 60), 0);
        due.fine("back where it was told, whole", post, post.comes(5, -1, -1, 60), 0);
        due.fine("from 5 on", post, post.knows(0, 0), 5);
        due.fine("its bytes stay", post, post.joined(0, 0, 1), 2);
    }

    // ---- term 5

    private static void atMostTenReadings() {
        PigeonPost post = Posts.withTowns(10);
        for (int i = 0; i < 10; i++) {
            for (int town = 0; town < 10; town++) due.fine("reading", post, post.reading(town, 10 * i, 20 * i + town));
        }
        for (int town = 0; town < 10; town++) {
            due.not("one too many", post, post.reading(town, 100, 200), 5);
            due.fine("right", post, post.right(town, 181 + town), 1);
            due.fraction("behind the 10th", post, 91, 1);
        }
    }

    private static void readingsRise() {
        PigeonPost post = Posts.withTowns(2);
        due.fine("the first, of nothing", post, post.reading(0, 0, 0));
        due.not("the same", post, post.reading(0, 0, 0), 1);
        due.not("the same minute", post, post.reading(0, 0, 1), 1);
        due.not("the same number", post, post.reading(0, 1, 0), 1);
        due.fine("a refused one isn't the latest", post, post.reading(1, 0, 7));
        due.fine("both above", post, post.reading(0, 1, 1));
        due.fine("a lesser number of another clock", post, post.reading(1, 1, 8));
        due.not("back", post, post.reading(0, 0, 5), 2);
    }

    private static void readingsFrom0To200000() {
        PigeonPost post = Posts.withTowns(1);
        due.not("number -1", post, post.reading(0, 0, -1), 1);
        due.not("number 200001", post, post.reading(0, 0, 200001), 1);
        due.fine("number 0", post, post.reading(0, 0, 0));
        due.fine("number 200000", post, post.reading(0, 100000, 200000));
        due.fine("right(0, 200000)", post, post.right(0, 200000), 1);
        due.fraction("the last", post, 100000, 1);
        due.fine("right(0, 0)", post, post.right(0, 0), 0);
        due.fraction("the first", post, 0, 1);
        due.none("right(0, -1)", post, post.right(0, -1), 1);
        due.none("right(0, 200001)", post, post.right(0, 200001), 1);
    }

    private static void rightBetweenAheadAndBehind() {
        PigeonPost post = Posts.withTowns(1);
        int[] minutes = {3, 8, 40, 41};
        int[] numbers = {20, 27, 30, 55};
        for (int i = 0; i < 4; i++) {
            due.fine("reading", post, post.reading(0, minutes[i], numbers[i]));
            for (int told = 0; told < 80; told++) compare(post, minutes, numbers, i + 1, told);
        }
    }

    private static void compare(PigeonPost post, int[] minutes, int[] numbers, int many, int told) {
        long top;
        long bottom = 1;
        if (told <= numbers[0]) {
            top = minutes[0] - (numbers[0] - told);
        } else if (told >= numbers[many - 1]) {
            top = minutes[many - 1] + (told - numbers[many - 1]);
        } else {
            int next = 1;
            while (numbers[next] < told) next++;
            bottom = numbers[next] - numbers[next - 1];
            top = minutes[next] * bottom - (numbers[next] - told) * (minutes[next] - minutes[next - 1]);
        }
        long divisor = Math.max(1, BigInteger.valueOf(top).gcd(BigInteger.valueOf(bottom)).longValue());
        String call = many + " READINGS, right(0, " + told + ")";
        due.fine(call, post, post.right(0, told), Long.signum(top));
        due.fraction(call, post, top / divisor, bottom / divisor);
    }

    private static void fractionsWithoutACommonDivisor() {
        PigeonPost post = Posts.withTowns(2);
        post.reading(0, 0, 0);
        post.reading(0, 30, 60);
        post.road(0, 1, 5, 8);
        due.fine("right(0, 0)", post, post.right(0, 0), 0);
        due.fraction("0 by 1", post, 0, 1);
        due.fine("right(0, 36)", post, post.right(0, 36), 1);
        due.fraction("18 by 1", post, 18, 1);
        due.fine("right(0, 37)", post, post.right(0, 37), 1);
        due.fraction("37 by 2", post, 37, 2);
        due.fine("sure(0, 1, 2)", post, post.sure(0, 1, 2), 1);
        due.fraction("9 by 25", post, 9, 25);
        PigeonPost late = Posts.withTowns(1);
        late.reading(0, 4, 100);
        due.fine("right(0, 90)", late, late.right(0, 90), -1);
        due.fraction("a top below 0", late, -6, 1);
        due.is("-1 is no NONE: status()", late.status(), 0);
    }

    private static void aRefusedCallTellsNoFraction() {
        PigeonPost post = Posts.withTowns(2);
        post.reading(0, 7, 9);
        post.right(0, 12);
        due.none("sure", post, post.sure(0, 1, 1), 6);
        due.fraction("behind sure", post, 10, 1);
        due.none("relay", post, post.relay(0, 1, 1, 2), 6);
        due.fraction("behind relay", post, 10, 1);
        due.none("right", post, post.right(1, 9), 6);
        due.fraction("behind right", post, 10, 1);
        due.none("right, no such number", post, post.right(0, -1), 1);
        due.fraction("behind right", post, 10, 1);
        due.none("top() and bottom() have no STATUS", post, post.sure(0, 0, 1), 1);
        due.is("top()", post.top(), 10);
        due.is("bottom()", post.bottom(), 1);
        due.is("status()", post.status(), 1);
    }
}
