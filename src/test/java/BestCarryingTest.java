/** Promises 21 to 25 against all CARRYINGS, tried one by one. */
public final class BestCarryingTest {
    private static final Due due = new Due("BestCarryingTest");

    /** All loads to TOWNS 1, 2 .. from HOME 0. */
    private static final class Trial {
        final int[] lacks = new int[5];
        final int[] worths = new int[5];
        final int[] fares = new int[5];
        final int[] loads = new int[5];
        int[] best = null;
        int bestWorth;
        int bestFares;

        void tryFrom(int town, int left) {
            if (town == loads.length) {
                weigh();
                return;
            }
            // more birds first: of CARRYINGS that are equally good the first one tried stays
            for (int load = Math.min(left, lacks[town]); load >= 0; load--) {
                loads[town] = load;
                tryFrom(town + 1, left - load);
            }
        }

        private void weigh() {
            int worth = 0;
            int fare = 0;
            for (int town = 0; town < loads.length; town++) {
                worth += loads[town] * worths[town];
                for (int birds = loads[town]; birds > 0; birds -= 6) fare += fares[town];
            }
            if (best != null && (worth < bestWorth || worth == bestWorth && fare >= bestFares)) return;
            best = loads.clone();
            bestWorth = worth;
            bestFares = fare;
        }
    }

    public static void main(String[] args) {
        for (int seed = 1; seed <= 300; seed++) round(new Draws(seed), "seed " + seed);
        due.end();
    }

    private static void round(Draws draws, String name) {
        PigeonPost post = Posts.withTowns(5);
        Trial trial = new Trial();
        int atHome = draws.from(0, 22);
        Posts.birds(post, atHome, 0, 0);
        for (int town = 1; town < 5; town++) {
            int wanted = draws.from(0, 12);
            int there = draws.from(0, 3);
            trial.lacks[town] = Math.max(0, wanted - there);
            trial.worths[town] = draws.from(1, 2) * 50;
            trial.fares[town] = draws.from(0, 3) * 10;
            post.want(town, 0, wanted, trial.worths[town]);
            post.fare(0, town, trial.fares[town]);
            Posts.birds(post, there, 0, town);
            due.fine(name + ", lack(" + town + ", 0)", post, post.lack(town, 0), trial.lacks[town]);
        }
        trial.tryFrom(1, atHome);
        compare(name, post, trial);
    }

    private static void compare(String name, PigeonPost post, Trial trial) {
        due.fine(name + ", carrying(0)", post, post.carrying(0), trial.bestWorth);
        due.fine(name + ", fares(0)", post, post.fares(0), trial.bestFares);
        int all = 0;
        int[] waiting = new int[5];
        for (int town = 1; town < 5; town++) {
            due.fine(name + ", carried(0, " + town + ")", post, post.carried(0, town), trial.best[town]);
            all += trial.best[town];
            waiting[town] = post.waits(0, town);
        }
        due.fine(name + ", send(0)", post, post.send(0), all);
        for (int town = 1; town < 5; town++) {
            due.fine(name + ", waits(0, " + town + ")", post, post.waits(0, town), waiting[town] + trial.best[town]);
        }
    }
}
