import java.util.ArrayList;
import java.util.BitSet;
import java.util.List;

/** Promises 26 to 32 in long runs against a diary: what a TOWN KNOWS is read anew from all that has come there. */
public final class DrawnLettersTest {
    private static final Due due = new Due("DrawnLettersTest");
    private static final int TOWNS = 4;
    private static final int BIRDS = 20;

    /** Bytes that came to a TOWN (or were told there) at a minute. */
    private record Coming(int letter, int town, int minute, BitSet bytes) {
    }

    private final PigeonPost post = Posts.withTowns(TOWNS);
    private final Draws draws;
    private final String name;
    private final List<int[]> letters = new ArrayList<>();
    private final List<Coming> comings = new ArrayList<>();
    private final int[] homes = new int[BIRDS];
    private final int[] towns = new int[BIRDS];
    private final int[] rests = new int[BIRDS];
    private final int[] carried = new int[BIRDS];
    private final boolean[] lost = new boolean[BIRDS];
    private final int[][] copies = new int[40][3];
    private int minute = 0;

    private DrawnLettersTest(int seed) {
        draws = new Draws(seed);
        name = "seed " + seed;
    }

    public static void main(String[] args) {
        for (int seed = 1; seed <= 150; seed++) new DrawnLettersTest(seed).run();
        due.end();
    }

    private void run() {
        // all but 0 and 3
        for (int a = 0; a < TOWNS; a++) {
            for (int b = a + 1; b < TOWNS; b++) if (b - a < 3) post.road(a, b, 30, 2);
        }
        for (int bird = 0; bird < BIRDS; bird++) {
            homes[bird] = towns[bird] = post.bird(draws.from(0, TOWNS - 1)) == bird ? post.told(bird, 0) : -1;
            carried[bird] = -1;
        }
        for (int i = 0; i < 300; i++) {
            minute += draws.from(0, 3) * 5;
            int what = draws.from(0, 9);
            if (what == 0) letter();
            else if (what < 3) carry(draws.from(0, BIRDS - 1));
            else if (what < 6) fly(draws.from(0, BIRDS - 1));
            else if (what < 9) comes(draws.from(0, BIRDS - 1));
            else if (draws.from(0, 3) == 0) lose(draws.from(0, BIRDS - 1));
        }
        compare();
    }

    private void letter() {
        int many = draws.from(1, draws.from(0, 3) == 0 ? 40 : 5);
        int town = draws.from(0, TOWNS - 1);
        post.tray(1, 2, 60);
        int[] bytes = new int[many];
        for (int i = 0; i < many; i++) {
            bytes[i] = draws.from(1, 255);
            post.write(1, i, bytes[i]);
        }
        int got = post.letter(town, 1, many, minute);
        if (letters.size() == 40) {
            due.none(name + ", letter", post, got, 5);
            return;
        }
        due.fine(name + ", letter", post, got, letters.size());
        BitSet all = new BitSet();
        all.set(0, many);
        comings.add(new Coming(letters.size(), town, minute, all));
        letters.add(bytes);
    }

    private void carry(int bird) {
        int town = draws.from(0, TOWNS - 1);
        boolean waits = carried[bird] < 0 && !lost[bird];
        due.is(name + ", carry", post.carry(bird, town), waits);
        due.is(name + ", carry, status", post.status(), waits ? 0 : 7);
        if (waits) towns[bird] = town;
    }

    private void fly(int bird) {
        if (letters.isEmpty()) return;
        int letter = draws.from(0, letters.size() - 1);
        boolean ready = carried[bird] < 0 && !lost[bird] && minute >= rests[bird] && towns[bird] != homes[bird];
        int status = !ready ? 7 : Math.abs(towns[bird] - homes[bird]) == 3 ? 6
            : known(letter, towns[bird]) < 0 ? 7 : 0;
        due.is(name + ", fly", post.fly(bird, letter, minute), status == 0);
        due.is(name + ", fly, status", post.status(), status);
        if (status != 0) return;
        carried[bird] = letter;
        copies[letter][0]++;
    }

    private void comes(int bird) {
        int letter = carried[bird];
        boolean whole = letter < 0 || draws.from(0, 3) == 0;
        int from = whole ? -1 : draws.from(0, letters.get(letter).length - 1);
        int to = whole ? -1 : draws.from(from, letters.get(letter).length - 1);
        int got = post.comes(bird, from, to, minute);
        if (letter < 0) {
            due.none(name + ", comes", post, got, 7);
            return;
        }
        boolean knew = known(letter, homes[bird]) >= 0;
        BitSet bytes = new BitSet();
        bytes.set(0, letters.get(letter).length);
        if (!whole) bytes.clear(from, to + 1);
        comings.add(new Coming(letter, homes[bird], minute, bytes));
        due.fine(name + ", comes", post, got, !knew && known(letter, homes[bird]) >= 0 ? 1 : 0);
        copies[letter][1]++;
        carried[bird] = -1;
        towns[bird] = homes[bird];
        rests[bird] = minute + 60;
    }

    private void lose(int bird) {
        boolean flies = carried[bird] >= 0;
        due.is(name + ", lose", post.lose(bird, minute), flies);
        due.is(name + ", lose, status", post.status(), flies ? 0 : 7);
        if (!flies) return;
        copies[carried[bird]][2]++;
        carried[bird] = -1;
        lost[bird] = true;
    }

    /** The minute at which all bytes of a LETTER were together in a TOWN, or -1. */
    private int known(int letter, int town) {
        BitSet together = new BitSet();
        for (Coming coming : comings) {
            if (coming.letter != letter || coming.town != town) continue;
            together.or(coming.bytes);
            if (together.cardinality() == letters.get(letter).length) return coming.minute;
        }
        return -1;
    }

    private void compare() {
        for (int letter = 0; letter < letters.size(); letter++) {
            for (int what = 0; what < 3; what++) due.fine(name + ", copies", post, post.copies(letter, what), copies[letter][what]);
            for (int town = 0; town < TOWNS; town++) compare(letter, town);
        }
        for (int bird = 0; bird < BIRDS; bird++) {
            boolean waits = carried[bird] < 0 && !lost[bird];
            due.fine(name + ", told 0", post, post.told(bird, 0), homes[bird]);
            due.fine(name + ", told 1", post, post.told(bird, 1), waits ? towns[bird] : -1);
            due.fine(name + ", told 2", post, post.told(bird, 2), lost[bird] ? 2 : waits ? 0 : 1);
            due.fine(name + ", told 3", post, post.told(bird, 3), rests[bird]);
            due.fine(name + ", told 4", post, post.told(bird, 4), carried[bird]);
        }
    }

    private void compare(int letter, int town) {
        int known = known(letter, town);
        due.is(name + ", knows", post.knows(letter, town), known);
        due.is(name + ", knows, status", post.status(), known < 0 ? 7 : 0);
        BitSet together = new BitSet();
        for (Coming coming : comings) if (coming.letter == letter && coming.town == town) together.or(coming.bytes);
        for (int k = 0; k < letters.get(letter).length; k++) {
            due.fine(name + ", joined", post, post.joined(letter, town, k), together.get(k) ? letters.get(letter)[k] : 0);
        }
    }
}
