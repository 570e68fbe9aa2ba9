import java.math.BigInteger;
import java.util.ArrayList;
import java.util.Arrays;
import java.util.Comparator;
import java.util.HashMap;
import java.util.HashSet;
import java.util.List;
import java.util.Map;
import java.util.Set;

/**
 * The document once more in a form of its own: lists and maps, FRACTIONS of BigIntegers, all RELAYS written down, a
 * diary of all that came. A boolean counts 1 or 0.
 */
final class PlainPost {
    static final int WAITS = 0;
    static final int FLIES = 1;
    private static final int LOST = 2;

    private static final class Tray {
        int sort;
        long[] numbers;
    }

    private static final class Bird {
        int home;
        int town;
        int does = WAITS;
        int rest = 0;
        int letter = -1;
    }

    private static final class Letter {
        int[] bytes;
        final int[] copies = new int[3];
        final List<Coming> diary = new ArrayList<>();
    }

    /** Places of a LETTER that came to a TOWN, or were told there, at a minute. */
    private record Coming(int town, int minute, Set<Integer> places) {
    }

    private record Reading(int minute, int told) {
    }

    private record Road(int minutes, int loss) {
    }

    private record Want(int many, int worth) {
    }

    private record Relay(List<Integer> towns, List<Integer> doubles, int birds, int minutes, BigInteger top, BigInteger bottom) {
    }

    private record Carrying(int worth, int fares, List<Integer> loads) {
    }

    private final Tray[] trays = new Tray[4];
    private int towns = 0;
    private final Map<Set<Integer>, Road> roads = new HashMap<>();
    private final Map<List<Integer>, Integer> fares = new HashMap<>();
    private final Map<List<Integer>, Want> wants = new HashMap<>();
    private final List<Bird> birds = new ArrayList<>();
    private final List<Letter> letters = new ArrayList<>();
    private final Map<Integer, List<Reading>> clocks = new HashMap<>();
    private Relay found = null;
    private BigInteger top = BigInteger.ZERO;
    private BigInteger bottom = BigInteger.ONE;
    private int latest = 0;
    private int status = 0;

    // ---- what a test draws its numbers by

    int towns() {
        return towns;
    }

    int birds() {
        return birds.size();
    }

    int letters() {
        return letters.size();
    }

    int latest() {
        return latest;
    }

    int does(int bird) {
        return noBird(bird) ? LOST : birds.get(bird).does;
    }

    boolean isAway(int bird) {
        return does(bird) == WAITS && birds.get(bird).town != birds.get(bird).home;
    }

    /** How many bytes the COPY has that a BIRD has with it, or how many one can have at most. */
    int bytesOf(int bird) {
        return does(bird) == FLIES ? letters.get(birds.get(bird).letter).bytes.length : 40;
    }

    // ---- STATUS

    private long fine(long answer) {
        status = 0;
        return answer;
    }

    private long none(int why) {
        status = why;
        return -1;
    }

    private long not(int why) {
        status = why;
        return 0;
    }

    private boolean noTown(int... all) {
        return Arrays.stream(all).anyMatch(town -> town < 0 || town >= towns);
    }

    private boolean noTwoTowns(int a, int b) {
        return noTown(a, b) || a == b;
    }

    private static boolean out(int v, int least, int most) {
        return v < least || v > most;
    }

    private boolean noBird(int bird) {
        return out(bird, 0, birds.size() - 1);
    }

    private boolean noLetter(int letter) {
        return out(letter, 0, letters.size() - 1);
    }

    public long status() {
        return status;
    }

    public long top() {
        return top.longValueExact();
    }

    public long bottom() {
        return bottom.longValueExact();
    }

    private void tell(BigInteger newTop, BigInteger newBottom) {
        BigInteger divisor = newTop.gcd(newBottom);
        top = newTop.divide(divisor);
        bottom = newBottom.divide(divisor);
    }

    // ---- TRAYS

    public long tray(int tray, int sort, int many) {
        if (out(tray, 0, 3) || out(sort, 0, 3) || out(many, 0, 60)) return not(1);
        trays[tray] = new Tray();
        trays[tray].sort = sort;
        trays[tray].numbers = new long[many];
        return fine(1);
    }

    public long write(int tray, int place, long v) {
        if (out(tray, 0, 3)) return not(1);
        if (trays[tray] == null) return not(3);
        if (out(place, 0, trays[tray].numbers.length - 1)) return not(4);
        BigInteger all = BigInteger.TWO.pow(new int[] {8, 16, 32, 64}[trays[tray].sort]);
        BigInteger cut = BigInteger.valueOf(v).mod(all);
        // the upper half of what so many bits can tell stands for numbers below 0
        if (cut.shiftLeft(1).compareTo(all) >= 0) cut = cut.subtract(all);
        trays[tray].numbers[place] = cut.longValueExact();
        return fine(1);
    }

    public long read(int tray, int place) {
        if (out(tray, 0, 3)) return none(1);
        if (trays[tray] == null) return none(3);
        if (out(place, 0, trays[tray].numbers.length - 1)) return none(4);
        return fine(trays[tray].numbers[place]);
    }

    public long pour(int from, int place, int to, int at, int many) {
        if (out(from, 0, 3) || out(to, 0, 3) || place < 0 || at < 0 || many < 0) return not(1);
        if (trays[from] == null || trays[to] == null) return not(3);
        if (trays[from].sort != trays[to].sort) return not(8);
        if ((long) place + many > trays[from].numbers.length || (long) at + many > trays[to].numbers.length) return not(4);
        long[] were = trays[from].numbers.clone();
        for (int i = 0; i < many; i++) trays[to].numbers[at + i] = were[place + i];
        return fine(1);
    }

    // ---- TOWNS and BIRDS

    public long town() {
        if (towns == 10) return none(5);
        return fine(towns++);
    }

    public long road(int a, int b, int minutes, int loss) {
        if (noTwoTowns(a, b) || out(loss, 0, 9)) return not(1);
        if (minutes == 0 || out(minutes, -1, 500)) return not(1);
        if (minutes > 0) roads.put(Set.of(a, b), new Road(minutes, loss));
        else if (roads.remove(Set.of(a, b)) == null) return not(6);
        return fine(1);
    }

    public long fare(int from, int to, int fare) {
        if (noTwoTowns(from, to) || out(fare, 0, 1000)) return not(1);
        fares.put(List.of(from, to), fare);
        return fine(1);
    }

    public long bird(int home) {
        if (noTown(home)) return none(1);
        if (birds.size() == 60) return none(5);
        Bird bird = new Bird();
        bird.home = home;
        bird.town = home;
        birds.add(bird);
        return fine(birds.size() - 1);
    }

    public long carry(int bird, int town) {
        if (noBird(bird) || noTown(town)) return not(1);
        if (birds.get(bird).does != WAITS) return not(7);
        birds.get(bird).town = town;
        return fine(1);
    }

    public long told(int number, int what) {
        if (noBird(number) || out(what, 0, 4)) return none(1);
        Bird bird = birds.get(number);
        if (what == 0) return fine(bird.home);
        if (what == 1) return fine(bird.does == WAITS ? bird.town : -1);
        if (what == 2) return fine(bird.does);
        if (what == 3) return fine(bird.rest);
        return fine(bird.does == FLIES ? bird.letter : -1);
    }

    private int waiting(int home, int town) {
        return (int) birds.stream().filter(bird -> bird.home == home && bird.does == WAITS && bird.town == town).count();
    }

    public long waits(int home, int town) {
        if (noTown(home, town)) return none(1);
        return fine(waiting(home, town));
    }

    // ---- SURETY

    private BigInteger sureTop(int a, int b, int k) {
        return BigInteger.TEN.pow(k).subtract(BigInteger.valueOf(roads.get(Set.of(a, b)).loss).pow(k));
    }

    private static boolean does(BigInteger sureTop, BigInteger sureBottom, int n, int d) {
        return sureTop.multiply(BigInteger.valueOf(d)).compareTo(sureBottom.multiply(BigInteger.valueOf(n))) >= 0;
    }

    public long sure(int a, int b, int k) {
        if (noTwoTowns(a, b) || out(k, 1, 4)) return none(1);
        if (!roads.containsKey(Set.of(a, b))) return none(6);
        tell(sureTop(a, b, k), BigInteger.TEN.pow(k));
        return fine(top.signum());
    }

    public long doubles(int a, int b, int n, int d) {
        if (noTown(a, b) || out(d, 1, 1000) || out(n, 0, d)) return none(1);
        if (a == b || !roads.containsKey(Set.of(a, b))) return none(6);
        for (int k = 1; k <= 4; k++) if (does(sureTop(a, b, k), BigInteger.TEN.pow(k), n, d)) return fine(k);
        return none(6);
    }

    public long relay(int a, int b, int n, int d) {
        if (noTwoTowns(a, b) || out(d, 1, 1000) || out(n, 0, d)) return none(1);
        List<Relay> all = new ArrayList<>();
        for (List<Integer> way : ways(a, b)) addRelays(way, all);
        all.removeIf(relay -> !does(relay.top, relay.bottom, n, d));
        if (all.isEmpty()) return none(6);
        all.sort(Comparator.comparingInt(Relay::birds).thenComparingInt(Relay::minutes)
            .thenComparing(Relay::towns, PlainPost::inOrder).thenComparing(Relay::doubles, PlainPost::inOrder));
        found = all.get(0);
        tell(found.top, found.bottom);
        return fine(found.birds);
    }

    /** The TOWNS of each way over 1 to 3 ROADS. */
    private List<List<Integer>> ways(int a, int b) {
        List<List<Integer>> ways = new ArrayList<>();
        ways.add(List.of(a, b));
        for (int c = 0; c < towns; c++) {
            if (c == a || c == b) continue;
            ways.add(List.of(a, c, b));
            for (int e = 0; e < towns; e++) if (e != a && e != b && e != c) ways.add(List.of(a, c, e, b));
        }
        for (int i = 0; i < 3; i++) {
            int leg = i;
            ways.removeIf(way -> leg + 1 < way.size() && !roads.containsKey(Set.of(way.get(leg), way.get(leg + 1))));
        }
        return ways;
    }

    private void addRelays(List<Integer> way, List<Relay> all) {
        List<Relay> begun = List.of(new Relay(way, List.of(), 0, 0, BigInteger.ONE, BigInteger.ONE));
        for (int i = 1; i < way.size(); i++) {
            int from = way.get(i - 1);
            int to = way.get(i);
            List<Relay> longer = new ArrayList<>();
            for (Relay relay : begun) {
                for (int k = 1; k <= 4 && k <= waiting(to, from); k++) {
                    List<Integer> doubles = new ArrayList<>(relay.doubles);
                    doubles.add(k);
                    longer.add(new Relay(way, doubles, relay.birds + k, relay.minutes + roads.get(Set.of(from, to)).minutes,
                        relay.top.multiply(sureTop(from, to, k)), relay.bottom.multiply(BigInteger.TEN.pow(k))));
                }
            }
            begun = longer;
        }
        all.addAll(begun);
    }

    /** Number by number the lesser, and one that ends sooner ahead. */
    private static int inOrder(List<Integer> a, List<Integer> b) {
        for (int i = 0; i < a.size() && i < b.size(); i++) {
            if (a.get(i) < b.get(i)) return -1;
            if (a.get(i) > b.get(i)) return 1;
        }
        return a.size() - b.size();
    }

    public long leg(int k, int what) {
        if (out(k, 0, 2) || out(what, 0, 2)) return none(1);
        if (found == null || k >= found.doubles.size()) return none(6);
        return fine(what == 0 ? found.towns.get(k) : what == 1 ? found.towns.get(k + 1) : found.doubles.get(k));
    }

    // ---- BASKETS

    public long want(int town, int home, int many, int worth) {
        if (noTwoTowns(town, home) || out(many, 0, 20) || out(worth, 1, 100)) return not(1);
        wants.put(List.of(town, home), new Want(many, worth));
        return fine(1);
    }

    private int lacking(int town, int home) {
        Want want = wants.get(List.of(town, home));
        if (want == null) return 0;
        int still = want.many - waiting(home, town);
        return still < 0 ? 0 : still;
    }

    public long lack(int town, int home) {
        if (noTwoTowns(town, home)) return none(1);
        return fine(lacking(town, home));
    }

    /** The BEST CARRYING to this TOWN and those behind it with so many birds. */
    private Carrying best(int home, int town, int left, Map<List<Integer>, Carrying> known) {
        if (town == towns) return new Carrying(0, 0, List.of());
        Carrying best = known.get(List.of(town, left));
        if (best != null) return best;
        int most = town == home ? 0 : Math.min(left, lacking(town, home));
        for (int load = 0; load <= most; load++) {
            Carrying behind = best(home, town + 1, left - load, known);
            int worth = load == 0 ? 0 : load * wants.get(List.of(town, home)).worth;
            int baskets = 0;
            while (baskets * 6 < load) baskets++;
            List<Integer> loads = new ArrayList<>(List.of(load));
            loads.addAll(behind.loads);
            Carrying one = new Carrying(worth + behind.worth,
                baskets * fares.getOrDefault(List.of(home, town), 10) + behind.fares, loads);
            if (best == null || isBetter(one, best)) best = one;
        }
        known.put(List.of(town, left), best);
        return best;
    }

    private static boolean isBetter(Carrying a, Carrying b) {
        if (a.worth != b.worth) return a.worth > b.worth;
        if (a.fares != b.fares) return a.fares < b.fares;
        return inOrder(a.loads, b.loads) > 0;
    }

    private Carrying best(int home) {
        return best(home, 0, waiting(home, home), new HashMap<>());
    }

    public long carrying(int home) {
        if (noTown(home)) return none(1);
        return fine(best(home).worth);
    }

    public long carried(int home, int town) {
        if (noTwoTowns(home, town)) return none(1);
        return fine(best(home).loads.get(town));
    }

    public long fares(int home) {
        if (noTown(home)) return none(1);
        return fine(best(home).fares);
    }

    public long send(int home) {
        if (noTown(home)) return none(1);
        List<Integer> loads = best(home).loads;
        List<Bird> ready = new ArrayList<>(birds);
        ready.removeIf(bird -> bird.home != home || bird.does != WAITS || bird.town != home);
        int next = 0;
        for (int town = 0; town < towns; town++) {
            for (int i = 0; i < loads.get(town); i++) ready.get(next++).town = town;
        }
        return fine(next);
    }

    // ---- LETTERS

    public long letter(int town, int tray, int many, int minute) {
        if (noTown(town) || out(tray, 0, 3) || out(many, 1, 40) || out(minute, 0, 100000)) return none(1);
        if (minute < latest) return none(2);
        if (trays[tray] == null) return none(3);
        if (trays[tray].numbers.length < many) return none(4);
        long[] numbers = Arrays.copyOf(trays[tray].numbers, many);
        if (Arrays.stream(numbers).anyMatch(v -> v < 1 || v > 255)) return none(1);
        if (letters.size() == 40) return none(5);
        Letter letter = new Letter();
        letter.bytes = Arrays.stream(numbers).mapToInt(v -> (int) v).toArray();
        letter.diary.add(new Coming(town, minute, placesOf(letter)));
        letters.add(letter);
        latest = minute;
        return fine(letters.size() - 1);
    }

    private static Set<Integer> placesOf(Letter letter) {
        Set<Integer> places = new HashSet<>();
        for (int k = 0; k < letter.bytes.length; k++) places.add(k);
        return places;
    }

    /** The minute of the first coming by which all places are together, or -1. */
    private static int known(Letter letter, int town) {
        Set<Integer> together = new HashSet<>();
        for (Coming coming : letter.diary) {
            if (coming.town != town) continue;
            together.addAll(coming.places);
            if (together.size() == letter.bytes.length) return coming.minute;
        }
        return -1;
    }

    public long fly(int number, int letter, int minute) {
        if (noBird(number) || noLetter(letter) || out(minute, 0, 100000)) return not(1);
        if (minute < latest) return not(2);
        Bird bird = birds.get(number);
        if (bird.does != WAITS || minute < bird.rest || bird.town == bird.home) return not(7);
        if (!roads.containsKey(Set.of(bird.town, bird.home))) return not(6);
        if (known(letters.get(letter), bird.town) < 0) return not(7);
        bird.does = FLIES;
        bird.letter = letter;
        letters.get(letter).copies[0]++;
        latest = minute;
        return fine(1);
    }

    public long comes(int number, int from, int to, int minute) {
        if (noBird(number) || out(minute, 0, 100000)) return none(1);
        Bird bird = birds.get(number);
        boolean whole = from == -1 && to == -1;
        int places = bird.does == FLIES ? letters.get(bird.letter).bytes.length : 40;
        if (!whole && (from < 0 || to < from || to >= places)) return none(1);
        if (minute < latest) return none(2);
        if (bird.does != FLIES) return none(7);
        Letter letter = letters.get(bird.letter);
        boolean knew = known(letter, bird.home) >= 0;
        Set<Integer> came = placesOf(letter);
        if (!whole) came.removeIf(k -> k >= from && k <= to);
        letter.diary.add(new Coming(bird.home, minute, came));
        letter.copies[1]++;
        bird.does = WAITS;
        bird.town = bird.home;
        bird.rest = minute + 60;
        latest = minute;
        return fine(!knew && known(letter, bird.home) >= 0 ? 1 : 0);
    }

    public long lose(int number, int minute) {
        if (noBird(number) || out(minute, 0, 100000)) return not(1);
        if (minute < latest) return not(2);
        Bird bird = birds.get(number);
        if (bird.does != FLIES) return not(7);
        bird.does = LOST;
        letters.get(bird.letter).copies[2]++;
        latest = minute;
        return fine(1);
    }

    public long knows(int letter, int town) {
        if (noLetter(letter) || noTown(town)) return none(1);
        int minute = known(letters.get(letter), town);
        return minute < 0 ? none(7) : fine(minute);
    }

    public long joined(int number, int town, int k) {
        if (noLetter(number) || noTown(town)) return none(1);
        Letter letter = letters.get(number);
        if (k < 0 || k >= letter.bytes.length) return none(6);
        boolean there = letter.diary.stream().anyMatch(coming -> coming.town == town && coming.places.contains(k));
        return fine(there ? letter.bytes[k] : 0);
    }

    public long copies(int letter, int what) {
        if (noLetter(letter) || out(what, 0, 2)) return none(1);
        return fine(letters.get(letter).copies[what]);
    }

    // ---- clocks

    private List<Reading> clock(int town) {
        return clocks.computeIfAbsent(town, any -> new ArrayList<>());
    }

    public long reading(int town, int minute, int told) {
        if (noTown(town) || out(minute, 0, 100000) || out(told, 0, 200000)) return not(1);
        if (minute < latest) return not(2);
        for (Reading ahead : clock(town)) if (ahead.minute >= minute || ahead.told >= told) return not(1);
        if (clock(town).size() == 10) return not(5);
        clock(town).add(new Reading(minute, told));
        latest = minute;
        return fine(1);
    }

    public long right(int town, int told) {
        if (noTown(town) || out(told, 0, 200000)) return none(1);
        if (clock(town).isEmpty()) return none(6);
        Reading first = clock(town).get(0);
        Reading last = clock(town).get(clock(town).size() - 1);
        if (told <= first.told) tell(BigInteger.valueOf(first.minute - (first.told - told)), BigInteger.ONE);
        else if (told >= last.told) tell(BigInteger.valueOf(last.minute + (told - last.told)), BigInteger.ONE);
        else tellBetween(clock(town), told);
        return fine(top.signum());
    }

    private void tellBetween(List<Reading> clock, int told) {
        int i = 0;
        while (clock.get(i + 1).told < told) i++;
        Reading a = clock.get(i);
        Reading b = clock.get(i + 1);
        // a weighs more the nearer the number is to it
        BigInteger weighed = BigInteger.valueOf(a.minute).multiply(BigInteger.valueOf(b.told - told))
            .add(BigInteger.valueOf(b.minute).multiply(BigInteger.valueOf(told - a.told)));
        tell(weighed, BigInteger.valueOf(b.told - a.told));
    }
}
