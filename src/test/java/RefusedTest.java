/**
 * STATUS (term 6): drawn calls go to one object, and those of them that were not refused to a twin; both must
 * answer alike, so a refused call changes nothing. No call may throw, whatever its arguments.
 */
public final class RefusedTest {
    private static final Due due = new Due("RefusedTest");
    private static final int CALLS = 30;
    private static final int[] FAR = {Integer.MIN_VALUE, -100001, -2, 61, 100000, 100001, 200000, 200001, Integer.MAX_VALUE};

    public static void main(String[] args) {
        for (int seed = 1; seed <= 400; seed++) round(new Draws(seed), seed);
        farNumbers();
        due.end();
    }

    private static void round(Draws draws, int seed) {
        PigeonPost post = new PigeonPost();
        PigeonPost twin = new PigeonPost();
        int minute = 0;
        begin(post, seed);
        begin(twin, seed);
        for (int i = 0; i < 440; i++) {
            minute += draws.from(0, 5) == 0 ? draws.from(0, 40) : 0;
            int call = draws.from(0, CALLS - 1);
            int[] numbers = drawNumbers(draws, call, minute);
            String name = "seed " + seed + ", call " + i + " (" + call + ")";
            long answer = answer(post, call, numbers);
            int status = post.status();
            if (status == 0) {
                due.is(name + " of the twin", answer(twin, call, numbers), answer);
                due.is(name + " of the twin, status", twin.status(), 0);
            } else {
                due.is(name + " refused", answer, isTrueOrFalse(call) ? 0 : -1);
                due.is(name + " a known status", status >= 1 && status <= 8, true);
            }
            due.fraction(name, post, twin.top(), twin.bottom());
        }
        compare("seed " + seed, post, twin);
    }

    /** TOWNS, ROADS, BIRDS, TRAYS and LETTERS, so that drawn calls find some of each. */
    private static void begin(PigeonPost post, int seed) {
        int towns = 2 + seed % 3;
        for (int i = 0; i < towns; i++) post.town();
        for (int i = 1; i < towns; i++) post.road(i - 1, i, 10 * i, 3 * i);
        for (int bird = 0; bird < 14; bird++) post.carry(post.bird(bird % towns), (bird + 1) % towns);
        Posts.fill(post, 0, 1, 5, 6, 7, 8, 9, 10, 11, 12);
        Posts.fill(post, 1, 1, 255, 1);
        for (int letter = 0; letter < 3; letter++) post.letter(letter % towns, 0, 3 + letter, 0);
    }

    /** Small numbers mostly, so that calls often go well; the minute where the call has one. */
    private static int[] drawNumbers(Draws draws, int call, int minute) {
        int[] numbers = new int[5];
        int most = draws.from(0, 3) == 0 ? 12 : 3;
        for (int i = 0; i < 5; i++) {
            numbers[i] = draws.from(0, 40) == 0 ? FAR[draws.from(0, FAR.length - 1)] : draws.from(-1, most);
        }
        int place = call == 21 || call == 23 ? 3 : call == 22 ? 2 : call == 24 || call == 28 ? 1 : -1;
        if (place >= 0 && draws.from(0, 20) != 0) numbers[place] = minute;
        if (call == 23 && draws.from(0, 1) == 0) numbers[1] = numbers[2] = -1;
        if (call == 28) numbers[2] = minute * 2 + draws.from(0, 30);
        if (call == 1 && draws.from(0, 1) == 0) numbers[2] = draws.from(1, 255);
        return numbers;
    }

    private static boolean isTrueOrFalse(int call) {
        return call <= 1 || call == 3 || call == 5 || call == 6 || call == 8 || call == 15
            || call == 22 || call == 24 || call == 28;
    }

    private static long one(boolean answer) {
        return answer ? 1 : 0;
    }

    private static long answer(PigeonPost x, int call, int[] n) {
        switch (call) {
            case 0: return one(x.tray(n[0], n[1], n[2]));
            case 1: return one(x.write(n[0], n[1], n[2]));
            case 2: return x.read(n[0], n[1]);
            case 3: return one(x.pour(n[0], n[1], n[2], n[3], n[4]));
            case 4: return x.town();
            case 5: return one(x.road(n[0], n[1], n[2], n[3]));
            case 6: return one(x.fare(n[0], n[1], n[2]));
            case 7: return x.bird(n[0]);
            case 8: return one(x.carry(n[0], n[1]));
            case 9: return x.told(n[0], n[1]);
            case 10: return x.waits(n[0], n[1]);
            case 11: return x.sure(n[0], n[1], n[2]);
            case 12: return x.doubles(n[0], n[1], n[2], n[3]);
            case 13: return x.relay(n[0], n[1], n[2], n[3]);
            case 14: return x.leg(n[0], n[1]);
            case 15: return one(x.want(n[0], n[1], n[2], n[3]));
            case 16: return x.lack(n[0], n[1]);
            case 17: return x.carrying(n[0]);
            case 18: return x.carried(n[0], n[1]);
            case 19: return x.fares(n[0]);
            default: return laterAnswer(x, call, n);
        }
    }

    private static long laterAnswer(PigeonPost x, int call, int[] n) {
        switch (call) {
            case 20: return x.send(n[0]);
            case 21: return x.letter(n[0], n[1], n[2], n[3]);
            case 22: return one(x.fly(n[0], n[1], n[2]));
            case 23: return x.comes(n[0], n[1], n[2], n[3]);
            case 24: return one(x.lose(n[0], n[1]));
            case 25: return x.knows(n[0], n[1]);
            case 26: return x.joined(n[0], n[1], n[2]);
            case 27: return x.copies(n[0], n[1]);
            case 28: return one(x.reading(n[0], n[1], n[2]));
            default: return x.right(n[0], n[1]);
        }
    }

    /** Calls that change nothing that is kept, asked of both. */
    private static void compare(String name, PigeonPost post, PigeonPost twin) {
        int[] asking = {2, 9, 10, 12, 14, 16, 17, 18, 19, 25, 26, 27, 11, 29};
        int[] numbers = new int[5];
        for (int call : asking) {
            for (int i = 0; i < 60 * 12 * 3; i++) {
                numbers[0] = i / 36;
                numbers[1] = i / 3 % 12;
                numbers[2] = i % 3;
                numbers[3] = 3;
                due.is(name + ", asked " + call, answer(post, call, numbers), answer(twin, call, numbers));
                due.is(name + ", asked " + call + ", status", post.status(), twin.status());
            }
        }
    }

    private static void farNumbers() {
        PigeonPost post = Posts.withTowns(10);
        Posts.birds(post, 60, 1, 0);
        post.road(0, 1, 5, 0);
        Posts.letter(post, 0, 40, 0);
        post.fly(0, 0, 0);
        int[] numbers = new int[5];
        for (int call = 0; call < CALLS; call++) {
            for (int i = 0; i < 100000; i++) {
                int rest = i;
                for (int k = 0; k < 5; k++) {
                    numbers[k] = rest % 10 == 9 ? 0 : FAR[rest % 10];
                    rest /= 10;
                }
                answer(post, call, numbers);
                if (post.status() < 0 || post.status() > 8) due.is("status of call " + call, post.status(), 0);
            }
        }
    }
}
