import java.lang.reflect.InvocationTargetException;
import java.lang.reflect.Method;
import java.lang.reflect.Modifier;
import java.util.Map;
import java.util.TreeMap;

/**
 * Promises 1 to 34 together: drawn runs of 512 calls on a new object, each answer, STATUS and FRACTION against those
 * of PlainPost. (What status(), top() and bottom() are asked behind each call comes on top of the 512.)
 */
public final class WholeRunsTest {
    private static final Due due = new Due("WholeRunsTest");
    private static final int RUNS = 600;
    private static final int CALLS = 512;

    /** A call, how often it is drawn for each of the four kinds of runs, the STATUS that it can have, its numbers. */
    private static final String[] TABLE = {
        "tray 1111 01 OTHER SORT LENGTH",
        "write 8284 0134 TRAY PLACE VALUE",
        "read 4111 0134 TRAY PLACE",
        "pour 4222 01348 TRAY PLACE TRAY PLACE SOME",
        "town 1110 05",
        "road 2822 016 TOWN TOWN FLIGHT LOSS",
        "fare 1161 01 TOWN TOWN FARE",
        "bird 2963 015 TOWN",
        "carry 2929 017 BIRD TOWN",
        "told 2122 01 BIRD FIVE",
        "waits 1221 01 TOWN TOWN",
        "sure 2211 016 TOWN TOWN DOUBLES",
        "doubles 2211 016 TOWN TOWN TOP BOTTOM",
        "relay 2911 016 TOWN TOWN TOP BOTTOM",
        "leg 2911 016 THREE THREE",
        "want 2191 01 TOWN TOWN WANTED WORTH",
        "lack 1141 01 TOWN TOWN",
        "carrying 1141 01 TOWN",
        "carried 1161 01 TOWN TOWN",
        "fares 1141 01 TOWN",
        "send 1121 01 TOWN",
        "letter 3329 012345 TOWN FILLED BYTES MINUTE",
        "fly 3119 01267 AWAY LETTER MINUTE",
        "comes 2117 0127 FLYING FROM TO MINUTE",
        "lose 1112 0127 FLYING MINUTE",
        "knows 2116 017 LETTER TOWN",
        "joined 2116 016 LETTER TOWN BYTES",
        "copies 2112 01 LETTER THREE",
        "reading 9111 0125 TOWN MINUTE TOLD",
        "right 9111 016 TOWN TOLD",
    };

    private static final Map<String, Integer> seen = new TreeMap<>();

    private final Draws draws;
    private final String name;
    private final int sort;
    private final PigeonPost post = new PigeonPost();
    private final PlainPost plain = new PlainPost();
    private int calls = 0;

    private WholeRunsTest(int seed) {
        draws = new Draws(seed);
        name = "run " + seed;
        sort = seed % 4;
    }

    public static void main(String[] args) throws ReflectiveOperationException {
        for (int seed = 1; seed <= RUNS; seed++) new WholeRunsTest(seed).run();
        eachStatusWasSeen();
        due.end();
    }

    /** Else the runs would be too narrow to tell anything of that call. */
    private static void eachStatusWasSeen() {
        for (String row : TABLE) {
            String[] parts = row.split(" ");
            for (int status = 0; status <= 8; status++) {
                boolean canBe = parts[2].indexOf('0' + status) >= 0;
                due.is(parts[0] + " with STATUS " + status + " was seen", seen.containsKey(parts[0] + " " + status), canBe);
            }
        }
    }

    private void run() throws ReflectiveOperationException {
        due.is(name + ", a new object's STATUS", post.status(), 0);
        due.fraction(name + ", a new object", post, 0, 1);
        calls = 3;
        // few TOWNS and many ROADS in runs of LETTERS, so that BIRDS often find one that KNOWS them
        int towns = sort == 3 ? draws.from(1, 4) : draws.from(0, 10);
        for (int i = 0; i < towns; i++) call("town", new int[0]);
        for (int i = 0; i < (sort == 3 ? 6 : 2) * towns; i++) call("road", drawn("TOWN", "TOWN", "FLIGHT", "LOSS"));
        for (int tray = draws.from(0, 4); tray < 4; tray++) call("tray", new int[] {tray, draws.from(0, 3), draws.from(0, 12)});
        fillTray();
        while (calls < CALLS) callDrawn();
    }

    /** TRAY 0 holds bytes, most often, so that there are LETTERS to tell. */
    private void fillTray() throws ReflectiveOperationException {
        call("tray", new int[] {0, draws.from(1, 3), draws.from(3, 8)});
        for (int place = 0; place < 6; place++) call("write", new int[] {0, place, draws.from(1, 255)});
    }

    private void callDrawn() throws ReflectiveOperationException {
        String[] parts = TABLE[draws.from(0, TABLE.length - 1)].split(" ");
        if (draws.from(1, 9) > parts[1].charAt(sort) - '0') return;
        String[] kinds = new String[parts.length - 3];
        System.arraycopy(parts, 3, kinds, 0, kinds.length);
        int[] numbers = drawn(kinds);
        if (parts[0].equals("comes")) tear(numbers);
        call(parts[0], numbers);
    }

    private void call(String call, int[] numbers) throws ReflectiveOperationException {
        if (calls == CALLS) return;
        calls++;
        Object[] given = new Object[numbers.length];
        StringBuilder text = new StringBuilder(name + ", call " + calls + ": " + call + "(");
        for (int i = 0; i < numbers.length; i++) {
            given[i] = numbers[i];
            text.append(i == 0 ? "" : ", ").append(numbers[i]);
        }
        // a number that is longer than an int, too
        if (call.equals("write")) given[2] = numbers[2] % 5 == 0 ? (long) numbers[2] << draws.from(0, 40) : (long) numbers[2];
        String called = text.append(")").toString();
        due.is(called, answer(post, call, given), answer(plain, call, given));
        due.is(called + ", status()", post.status(), plain.status());
        due.fraction(called, post, plain.top(), plain.bottom());
        seen.merge(call + " " + plain.status(), 1, Integer::sum);
    }

    private static long answer(Object object, String call, Object[] given) throws ReflectiveOperationException {
        for (Method method : object.getClass().getDeclaredMethods()) {
            if (!method.getName().equals(call) || method.getParameterCount() != given.length) continue;
            if (!Modifier.isPublic(method.getModifiers())) continue;
            Object answer;
            try {
                answer = method.invoke(object, given);
            } catch (InvocationTargetException thrown) {
                due.is(call + " threw " + thrown.getCause(), 1, 0);
                return Long.MIN_VALUE;
            }
            return answer instanceof Boolean ? ((Boolean) answer ? 1 : 0) : ((Number) answer).longValue();
        }
        throw new NoSuchMethodException(call);
    }

    // ---- numbers, most of them such as can be

    private int[] drawn(String... kinds) {
        int[] numbers = new int[kinds.length];
        for (int i = 0; i < kinds.length; i++) {
            numbers[i] = drawn(kinds[i]);
            if (draws.from(1, 150) == 1) numbers[i] = strange();
            if (kinds[i].equals("BOTTOM") && draws.from(1, 20) > 1) numbers[i - 1] = draws.from(0, Math.max(0, numbers[i]));
        }
        return numbers;
    }

    private int strange() {
        int[] all = {-1, -2, Integer.MIN_VALUE, Integer.MAX_VALUE, 0, 4, 10, 40, 41, 60, 61, 501, 1001, 100001, 200001};
        return all[draws.from(0, all.length - 1)];
    }

    private int drawn(String kind) {
        switch (kind) {
            case "TRAY": return draws.from(0, 3);
            case "FILLED": return Math.max(0, draws.from(-9, 3));
            case "OTHER": return draws.from(1, 20) == 1 ? 0 : draws.from(1, 3);
            case "SORT": return draws.from(1, 3) == 1 ? draws.from(0, 3) : 1;
            case "LENGTH": return draws.from(0, draws.from(0, 3) == 0 ? 60 : 8);
            case "PLACE": return draws.from(1, 10) == 1 ? draws.from(-1, 60) : draws.from(0, 6);
            case "VALUE": return draws.from(1, 16) == 1 ? draws.from(0, 2000000000) - 1000000000 : draws.from(0, 255);
            case "SOME": return draws.from(0, 5);
            case "TOWN": return draws.from(0, Math.max(0, plain.towns() - 1));
            case "FLIGHT": return draws.from(1, 6) == 1 ? -1 : draws.from(1, 12) == 1 ? draws.from(0, 501) : draws.from(1, 4);
            case "LOSS": return draws.from(0, 9);
            case "FARE": return draws.from(1, 6) == 1 ? draws.from(0, 1001) : draws.from(0, 3) * 5;
            case "BIRD": return draws.from(0, Math.max(0, plain.birds() - 1));
            case "AWAY": return birdThat(PlainPost.WAITS);
            case "FLYING": return birdThat(PlainPost.FLIES);
            case "LETTER": return draws.from(0, Math.max(0, plain.letters() - 1));
            case "TOLD": return Math.min(200000, plain.latest() * 2 + draws.from(0, 40));
            default: return drawnLess(kind);
        }
    }

    private int drawnLess(String kind) {
        switch (kind) {
            case "THREE": return draws.from(0, 2);
            case "FIVE": return draws.from(0, 4);
            case "DOUBLES": return draws.from(1, 4);
            case "TOP": return draws.from(0, 1000);
            case "BOTTOM": return draws.from(1, draws.from(0, 1) == 0 ? 1000 : 10);
            case "WANTED": return draws.from(0, draws.from(0, 2) == 0 ? 20 : 7);
            case "WORTH": return draws.from(0, 2) == 0 ? draws.from(1, 100) : draws.from(1, 3) * 2;
            case "BYTES": return draws.from(1, 12) == 1 ? draws.from(0, 40) : draws.from(1, 4);
            case "MINUTE": return minute();
            case "FROM":
            case "TO": return draws.from(-1, 3);
            default: throw new IllegalArgumentException(kind);
        }
    }

    /** Most often a BIRD that WAITS in a TOWN that isn't its HOME, or one that FLIES. */
    private int birdThat(int does) {
        int bird = drawn("BIRD");
        for (int i = draws.from(0, 12); i > 0; i--) {
            if (plain.does(bird) == does && (does == PlainPost.FLIES || plain.isAway(bird))) return bird;
            bird = drawn("BIRD");
        }
        return bird;
    }

    private int minute() {
        int sorts = draws.from(1, 40);
        if (sorts == 1) return plain.latest() - 1;
        if (sorts == 2) return draws.from(0, plain.latest());
        if (sorts == 3 && draws.from(1, 20) == 1) return draws.from(99990, 100000);
        return plain.latest() + (sorts < 20 ? 0 : draws.from(0, 30));
    }

    /** Whole, or torn within its bytes. */
    private void tear(int[] numbers) {
        int kind = draws.from(0, 9);
        if (kind == 0) return;
        int bytes = plain.bytesOf(numbers[0]);
        numbers[1] = kind < 4 ? -1 : draws.from(0, bytes - 1);
        numbers[2] = kind < 4 ? -1 : draws.from(numbers[1], Math.min(bytes - 1, numbers[1] + 2));
    }
}
