import java.math.BigInteger;
import java.util.ArrayList;
import java.util.Comparator;
import java.util.List;

/** Promises 18 and 19 against all RELAYS, written down one by one and sorted as the document says. */
public final class BestRelayTest {
    private static final Due due = new Due("BestRelayTest");

    private record Relay(List<Integer> towns, List<Integer> doubles, int birds, int minutes, BigInteger top, BigInteger bottom) {
        boolean does(int n, int d) {
            return top.multiply(BigInteger.valueOf(d)).compareTo(bottom.multiply(BigInteger.valueOf(n))) >= 0;
        }
    }

    private static final class Roads {
        final int towns;
        final int[][] minutes = new int[10][10];
        final int[][] losses = new int[10][10];
        final int[][] birds = new int[10][10];

        Roads(int towns) {
            this.towns = towns;
        }
    }

    public static void main(String[] args) {
        for (int seed = 1; seed <= 60; seed++) round(new Draws(seed), "seed " + seed);
        due.end();
    }

    private static void round(Draws draws, String name) {
        Roads roads = new Roads(draws.from(2, 10));
        PigeonPost post = Posts.withTowns(roads.towns);
        // few MINUTES and LOSSES to draw from, so that many RELAYS are equally good
        for (int i = 0; i < 3 * roads.towns; i++) {
            int a = draws.from(0, roads.towns - 1);
            int b = draws.from(0, roads.towns - 1);
            int minutes = draws.from(1, 4) * 10;
            int loss = draws.from(0, 3) * 3;
            if (!post.road(a, b, minutes, loss)) continue;
            roads.minutes[a][b] = roads.minutes[b][a] = minutes;
            roads.losses[a][b] = roads.losses[b][a] = loss;
        }
        for (int bird = 0; bird < 60; bird++) {
            int home = draws.from(0, roads.towns - 1);
            int town = draws.from(0, roads.towns - 1);
            post.carry(post.bird(home), town);
            roads.birds[town][home]++;
        }
        for (int i = 0; i < 40; i++) {
            int a = draws.from(0, roads.towns - 1);
            int b = draws.from(0, roads.towns - 1);
            int d = draws.from(1, 1000);
            if (a != b) compare(name, post, roads, new int[] {a, b, draws.from(0, d), d});
        }
    }

    private static void compare(String name, PigeonPost post, Roads roads, int[] asked) {
        String call = name + ": relay(" + asked[0] + ", " + asked[1] + ", " + asked[2] + ", " + asked[3] + ")";
        Relay best = best(roads, asked);
        int got = post.relay(asked[0], asked[1], asked[2], asked[3]);
        if (best == null) {
            due.none(call, post, got, 6);
            return;
        }
        due.fine(call, post, got, best.birds);
        BigInteger divisor = best.top.gcd(best.bottom);
        due.fraction(call, post, best.top.divide(divisor).longValueExact(), best.bottom.divide(divisor).longValueExact());
        for (int k = 0; k < 3; k++) {
            boolean there = k < best.doubles.size();
            due.is(call + ", leg(" + k + ", 0)", post.leg(k, 0), there ? best.towns.get(k) : -1);
            due.is(call + ", leg(" + k + ", 1)", post.leg(k, 1), there ? best.towns.get(k + 1) : -1);
            due.is(call + ", leg(" + k + ", 2)", post.leg(k, 2), there ? best.doubles.get(k) : -1);
        }
    }

    private static Relay best(Roads roads, int[] asked) {
        List<Relay> all = new ArrayList<>();
        Relay empty = new Relay(List.of(asked[0]), List.of(), 0, 0, BigInteger.ONE, BigInteger.ONE);
        collect(roads, empty, asked[1], all);
        return all.stream().filter(relay -> relay.does(asked[2], asked[3]))
            .min(Comparator.comparingInt(Relay::birds).thenComparingInt(Relay::minutes)
                .thenComparing(Relay::towns, BestRelayTest::compareRows)
                .thenComparing(Relay::doubles, BestRelayTest::compareRows))
            .orElse(null);
    }

    private static void collect(Roads roads, Relay begun, int goal, List<Relay> all) {
        int last = begun.towns.get(begun.towns.size() - 1);
        if (last == goal) all.add(begun);
        if (last == goal || begun.doubles.size() == 3) return;
        for (int next = 0; next < roads.towns; next++) {
            if (begun.towns.contains(next) || roads.minutes[last][next] == 0) continue;
            for (int doubles = 1; doubles <= Math.min(4, roads.birds[last][next]); doubles++) {
                BigInteger ten = BigInteger.TEN.pow(doubles);
                BigInteger sure = ten.subtract(BigInteger.valueOf(roads.losses[last][next]).pow(doubles));
                collect(roads, new Relay(with(begun.towns, next), with(begun.doubles, doubles), begun.birds + doubles,
                    begun.minutes + roads.minutes[last][next], begun.top.multiply(sure), begun.bottom.multiply(ten)),
                    goal, all);
            }
        }
    }

    private static List<Integer> with(List<Integer> row, int number) {
        List<Integer> longer = new ArrayList<>(row);
        longer.add(number);
        return longer;
    }

    private static int compareRows(List<Integer> a, List<Integer> b) {
        for (int i = 0; i < Math.min(a.size(), b.size()); i++) {
            if (!a.get(i).equals(b.get(i))) return a.get(i) - b.get(i);
        }
        return a.size() - b.size();
    }
}
