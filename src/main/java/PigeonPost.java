import java.util.Arrays;

/** A post by pigeons that fly only home; ../shared/DOC.md says what each call promises. */
public final class PigeonPost {
    public static final int NONE = -1;

    // STATUS
    private static final int FINE = 0;
    private static final int WRONG = 1;
    private static final int GONE = 2;
    private static final int MISSING = 3;
    private static final int NO_PLACE = 4;
    private static final int TOO_MANY = 5;
    private static final int NO_SUCH = 6;
    private static final int NOT_SO = 7;
    private static final int UNLIKE = 8;

    // what a BIRD does
    private static final int WAITS = 0;
    private static final int FLIES = 1;
    private static final int LOST = 2;

    // what became of COPIES
    private static final int FLEW = 0;
    private static final int CAME = 1;
    private static final int GOT_LOST = 2;

    // bounds that the document names
    private static final int TRAYS = 4;
    private static final int LONGEST_TRAY = 60;
    private static final int LAST_SORT = 3;
    private static final int MOST_TOWNS = 10;
    private static final int LONGEST_FLIGHT = 500;
    private static final int GREATEST_LOSS = 9;
    private static final int FIRST_FARE = 10;
    private static final int GREATEST_FARE = 1000;
    private static final int BASKET = 6;
    private static final int MOST_BIRDS = 60;
    private static final int LAST_MINUTE = 100000;
    private static final int REST = 60;
    private static final int MOST_DOUBLES = 4;
    private static final int MOST_ROADS = 3;
    private static final int GREATEST_DIVISOR = 1000;
    private static final int MOST_WANTED = 20;
    private static final int GREATEST_WORTH = 100;
    private static final int MOST_LETTERS = 40;
    private static final int LONGEST_LETTER = 40;
    private static final int GREATEST_BYTE = 255;
    private static final int MOST_READINGS = 10;
    private static final int GREATEST_TOLD = 200000;

    private final Fraction fraction = new Fraction();
    private final Trays trays = new Trays();
    private final Towns towns = new Towns();
    private final Birds birds = new Birds();
    private final Relays relays = new Relays(towns, birds);
    private final Baskets baskets = new Baskets(towns, birds);
    private final Letters letters = new Letters();
    private final Clocks clocks = new Clocks();
    private int status = FINE;
    private int now = 0;

    public PigeonPost() {
    }

    public int status() {
        return status;
    }

    public long top() {
        return fraction.top;
    }

    public long bottom() {
        return fraction.bottom;
    }

    // ---- TRAYS

    public boolean tray(int tray, int sort, int many) {
        status = wrongUnless(isTray(tray) && within(sort, 0, LAST_SORT) && within(many, 0, LONGEST_TRAY));
        if (status != FINE) return false;
        trays.make(tray, sort, many);
        return true;
    }

    public boolean write(int tray, int place, long v) {
        status = placeFault(tray, place);
        if (status != FINE) return false;
        trays.put(tray, place, v);
        return true;
    }

    public long read(int tray, int place) {
        status = placeFault(tray, place);
        if (status != FINE) return NONE;
        return trays.rows[tray][place];
    }

    public boolean pour(int from, int place, int to, int at, int many) {
        status = pourFault(from, place, to, at, many);
        if (status != FINE) return false;
        System.arraycopy(trays.rows[from], place, trays.rows[to], at, many);
        return true;
    }

    // ---- TOWNS and BIRDS

    public int town() {
        status = towns.count < MOST_TOWNS ? FINE : TOO_MANY;
        if (status != FINE) return NONE;
        return towns.add();
    }

    public boolean road(int a, int b, int minutes, int loss) {
        status = roadFault(a, b, minutes, loss);
        if (status != FINE) return false;
        towns.setRoad(a, b, minutes == NONE ? 0 : minutes, loss);
        return true;
    }

    public boolean fare(int from, int to, int fare) {
        status = wrongUnless(areTwoTowns(from, to) && within(fare, 0, GREATEST_FARE));
        if (status != FINE) return false;
        towns.fares[from][to] = fare;
        return true;
    }

    public int bird(int home) {
        status = birdFault(home);
        if (status != FINE) return NONE;
        return birds.add(home);
    }

    public boolean carry(int bird, int town) {
        status = carryFault(bird, town);
        if (status != FINE) return false;
        birds.leave(bird);
        birds.settle(bird, town);
        return true;
    }

    public int told(int bird, int what) {
        status = wrongUnless(isBird(bird) && within(what, 0, 4));
        if (status != FINE) return NONE;
        return birds.answer(bird, what);
    }

    public int waits(int home, int town) {
        status = wrongUnless(isTown(home) && isTown(town));
        if (status != FINE) return NONE;
        return birds.waiting[home][town];
    }

    // ---- SURETY

    public int sure(int a, int b, int k) {
        status = sureFault(a, b, k);
        if (status != FINE) return NONE;
        fraction.tell(towns.sureTop(a, b, k), power(10, k));
        return fraction.sign();
    }

    public int doubles(int a, int b, int n, int d) {
        status = wrongUnless(isTown(a) && isTown(b) && isChance(n, d));
        if (status != FINE) return NONE;
        int fewest = towns.fewestDoubles(a, b, n, d);
        if (fewest == NONE) status = NO_SUCH;
        return fewest;
    }

    public int relay(int a, int b, int n, int d) {
        status = wrongUnless(areTwoTowns(a, b) && isChance(n, d));
        if (status != FINE) return NONE;
        int fewest = relays.seek(a, b, n, d);
        if (fewest == NONE) {
            status = NO_SUCH;
            return NONE;
        }
        fraction.tell(relays.top, relays.bottom);
        return fewest;
    }

    public int leg(int k, int what) {
        status = legFault(k, what);
        if (status != FINE) return NONE;
        if (what == 2) return relays.foundDoubles[k];
        return relays.foundPath[k + what];
    }

    // ---- BASKETS

    public boolean want(int town, int home, int many, int worth) {
        status = wrongUnless(areTwoTowns(town, home)
            && within(many, 0, MOST_WANTED) && within(worth, 1, GREATEST_WORTH));
        if (status != FINE) return false;
        baskets.wanted[town][home] = many;
        baskets.worths[town][home] = worth;
        return true;
    }

    public int lack(int town, int home) {
        status = wrongUnless(areTwoTowns(town, home));
        if (status != FINE) return NONE;
        return baskets.lacked(town, home);
    }

    public int carrying(int home) {
        status = wrongUnless(isTown(home));
        if (status != FINE) return NONE;
        baskets.plan(home);
        return baskets.worthTogether(home);
    }

    public int carried(int home, int town) {
        status = wrongUnless(areTwoTowns(home, town));
        if (status != FINE) return NONE;
        baskets.plan(home);
        return baskets.loads[town];
    }

    public int fares(int home) {
        status = wrongUnless(isTown(home));
        if (status != FINE) return NONE;
        baskets.plan(home);
        return baskets.faresTogether(home);
    }

    public int send(int home) {
        status = wrongUnless(isTown(home));
        if (status != FINE) return NONE;
        baskets.plan(home);
        return baskets.carryOut(home);
    }

    // ---- LETTERS

    public int letter(int town, int tray, int many, int minute) {
        status = letterFault(town, tray, many, minute);
        if (status != FINE) return NONE;
        now = minute;
        return letters.add(town, trays.rows[tray], many, minute);
    }

    public boolean fly(int bird, int letter, int minute) {
        status = flyFault(bird, letter, minute);
        if (status != FINE) return false;
        now = minute;
        birds.flyOff(bird, letter);
        letters.copies[letter][FLEW]++;
        return true;
    }

    public int comes(int bird, int from, int to, int minute) {
        status = comesFault(bird, from, to, minute);
        if (status != FINE) return NONE;
        now = minute;
        int letter = birds.letters[bird];
        int home = birds.homes[bird];
        birds.comeHome(bird, minute);
        letters.copies[letter][CAME]++;
        return letters.join(letter, home, from, to, minute) ? 1 : 0;
    }

    public boolean lose(int bird, int minute) {
        status = loseFault(bird, minute);
        if (status != FINE) return false;
        now = minute;
        letters.copies[birds.letters[bird]][GOT_LOST]++;
        birds.getLost(bird);
        return true;
    }

    public int knows(int letter, int town) {
        status = wrongUnless(isLetter(letter) && isTown(town));
        if (status != FINE) return NONE;
        int since = letters.since[letter][town];
        if (since == NONE) status = NOT_SO;
        return since;
    }

    public int joined(int letter, int town, int k) {
        status = joinedFault(letter, town, k);
        if (status != FINE) return NONE;
        return letters.byteThere(letter, town, k);
    }

    public int copies(int letter, int what) {
        status = wrongUnless(isLetter(letter) && within(what, FLEW, GOT_LOST));
        if (status != FINE) return NONE;
        return letters.copies[letter][what];
    }

    // ---- clocks

    public boolean reading(int town, int minute, int told) {
        status = readingFault(town, minute, told);
        if (status != FINE) return false;
        now = minute;
        clocks.add(town, minute, told);
        return true;
    }

    public int right(int town, int told) {
        status = rightFault(town, told);
        if (status != FINE) return NONE;
        clocks.tellRight(town, told, fraction);
        return fraction.sign();
    }

    // ---- which STATUS a call has: the first that holds, asked in the document's order

    private int placeFault(int tray, int place) {
        if (!isTray(tray)) return WRONG;
        if (trays.isMissing(tray)) return MISSING;
        return within(place, 0, trays.lengths[tray] - 1) ? FINE : NO_PLACE;
    }

    private int pourFault(int from, int place, int to, int at, int many) {
        if (!isTray(from) || !isTray(to) || place < 0 || at < 0 || many < 0) return WRONG;
        if (trays.isMissing(from) || trays.isMissing(to)) return MISSING;
        if (trays.sorts[from] != trays.sorts[to]) return UNLIKE;
        return trays.holds(from, place, many) && trays.holds(to, at, many) ? FINE : NO_PLACE;
    }

    private int roadFault(int a, int b, int minutes, int loss) {
        if (!areTwoTowns(a, b) || !within(loss, 0, GREATEST_LOSS)) return WRONG;
        if (minutes == NONE) return towns.isRoad(a, b) ? FINE : NO_SUCH;
        return wrongUnless(within(minutes, 1, LONGEST_FLIGHT));
    }

    private int birdFault(int home) {
        if (!isTown(home)) return WRONG;
        return birds.count < MOST_BIRDS ? FINE : TOO_MANY;
    }

    private int carryFault(int bird, int town) {
        if (!isBird(bird) || !isTown(town)) return WRONG;
        return birds.states[bird] == WAITS ? FINE : NOT_SO;
    }

    private int sureFault(int a, int b, int k) {
        if (!areTwoTowns(a, b) || !within(k, 1, MOST_DOUBLES)) return WRONG;
        return towns.isRoad(a, b) ? FINE : NO_SUCH;
    }

    private int legFault(int k, int what) {
        if (!within(k, 0, MOST_ROADS - 1) || !within(what, 0, 2)) return WRONG;
        return k < relays.foundRoads ? FINE : NO_SUCH;
    }

    private int letterFault(int town, int tray, int many, int minute) {
        if (!isTown(town) || !isTray(tray)) return WRONG;
        if (!within(many, 1, LONGEST_LETTER) || !isMinute(minute)) return WRONG;
        if (minute < now) return GONE;
        if (trays.isMissing(tray)) return MISSING;
        if (many > trays.lengths[tray]) return NO_PLACE;
        if (!trays.beginsWithBytes(tray, many)) return WRONG;
        return letters.count < MOST_LETTERS ? FINE : TOO_MANY;
    }

    private int flyFault(int bird, int letter, int minute) {
        if (!isBird(bird) || !isLetter(letter) || !isMinute(minute)) return WRONG;
        if (minute < now) return GONE;
        if (!birds.canFlyOff(bird, minute)) return NOT_SO;
        int town = birds.towns[bird];
        if (!towns.isRoad(town, birds.homes[bird])) return NO_SUCH;
        return letters.since[letter][town] == NONE ? NOT_SO : FINE;
    }

    private int comesFault(int bird, int from, int to, int minute) {
        if (!isBird(bird) || !isMinute(minute)) return WRONG;
        if (!isTear(bird, from, to)) return WRONG;
        if (minute < now) return GONE;
        return birds.states[bird] == FLIES ? FINE : NOT_SO;
    }

    private int loseFault(int bird, int minute) {
        if (!isBird(bird) || !isMinute(minute)) return WRONG;
        if (minute < now) return GONE;
        return birds.states[bird] == FLIES ? FINE : NOT_SO;
    }

    private int joinedFault(int letter, int town, int k) {
        if (!isLetter(letter) || !isTown(town)) return WRONG;
        return within(k, 0, letters.lengths[letter] - 1) ? FINE : NO_SUCH;
    }

    private int readingFault(int town, int minute, int told) {
        if (!isTown(town) || !isMinute(minute) || !within(told, 0, GREATEST_TOLD)) return WRONG;
        if (minute < now) return GONE;
        if (!clocks.isAboveLatest(town, minute, told)) return WRONG;
        return clocks.counts[town] < MOST_READINGS ? FINE : TOO_MANY;
    }

    private int rightFault(int town, int told) {
        if (!isTown(town) || !within(told, 0, GREATEST_TOLD)) return WRONG;
        return clocks.counts[town] > 0 ? FINE : NO_SUCH;
    }

    // ---- what can be

    private static int wrongUnless(boolean canBe) {
        return canBe ? FINE : WRONG;
    }

    private static boolean within(int v, int least, int most) {
        return v >= least && v <= most;
    }

    private static boolean isTray(int tray) {
        return within(tray, 0, TRAYS - 1);
    }

    private static boolean isMinute(int minute) {
        return within(minute, 0, LAST_MINUTE);
    }

    private static boolean isChance(int n, int d) {
        return within(d, 1, GREATEST_DIVISOR) && within(n, 0, d);
    }

    private boolean isTown(int town) {
        return within(town, 0, towns.count - 1);
    }

    private boolean areTwoTowns(int a, int b) {
        return isTown(a) && isTown(b) && a != b;
    }

    private boolean isBird(int bird) {
        return within(bird, 0, birds.count - 1);
    }

    private boolean isLetter(int letter) {
        return within(letter, 0, letters.count - 1);
    }

    private boolean isTear(int bird, int from, int to) {
        if (from == NONE && to == NONE) return true;
        if (from < 0 || from > to || to >= LONGEST_LETTER) return false;
        return birds.states[bird] != FLIES || to < letters.lengths[birds.letters[bird]];
    }

    private static long power(long base, int exponent) {
        long product = 1;
        for (int i = 0; i < exponent; i++) product *= base;
        return product;
    }

    /** The FRACTION told latest. */
    private static final class Fraction {
        private long top = 0;
        private long bottom = 1;

        void tell(long newTop, long newBottom) {
            long divisor = commonDivisor(Math.abs(newTop), newBottom);
            if (divisor <= 0) return;
            top = newTop / divisor;
            bottom = newBottom / divisor;
        }

        int sign() {
            return Long.compare(top, 0);
        }

        private static long commonDivisor(long a, long b) {
            long greater = a;
            long lesser = b;
            // Euclid takes fewer than 100 steps for any two longs
            for (int step = 0; step < 100 && lesser != 0; step++) {
                long rest = greater % lesser;
                greater = lesser;
                lesser = rest;
            }
            return greater;
        }
    }

    private static final class Trays {
        private final int[] sorts = new int[TRAYS];
        private final int[] lengths = new int[TRAYS];
        private final long[][] rows = new long[TRAYS][LONGEST_TRAY];

        Trays() {
            Arrays.fill(sorts, NONE);
        }

        boolean isMissing(int tray) {
            return sorts[tray] == NONE;
        }

        void make(int tray, int sort, int many) {
            sorts[tray] = sort;
            lengths[tray] = many;
            Arrays.fill(rows[tray], 0L);
        }

        void put(int tray, int place, long v) {
            rows[tray][place] = cut(v, sorts[tray]);
        }

        boolean holds(int tray, int place, int many) {
            return many <= lengths[tray] && place <= lengths[tray] - many;
        }

        boolean beginsWithBytes(int tray, int many) {
            for (int i = 0; i < many; i++) {
                if (rows[tray][i] < 1 || rows[tray][i] > GREATEST_BYTE) return false;
            }
            return true;
        }

        private static long cut(long v, int sort) {
            switch (sort) {
                case 0: return (byte) v;
                case 1: return (short) v;
                case 2: return (int) v;
                default: return v;
            }
        }
    }

    private static final class Towns {
        private int count = 0;
        // 0 minutes: no ROAD
        private final int[][] minutes = new int[MOST_TOWNS][MOST_TOWNS];
        private final int[][] losses = new int[MOST_TOWNS][MOST_TOWNS];
        private final int[][] fares = new int[MOST_TOWNS][MOST_TOWNS];

        Towns() {
            for (int from = 0; from < MOST_TOWNS; from++) Arrays.fill(fares[from], FIRST_FARE);
        }

        int add() {
            count++;
            return count - 1;
        }

        void setRoad(int a, int b, int flight, int loss) {
            minutes[a][b] = flight;
            minutes[b][a] = flight;
            losses[a][b] = loss;
            losses[b][a] = loss;
        }

        boolean isRoad(int a, int b) {
            return minutes[a][b] > 0;
        }

        /** The top of the SURETY of k doubles by 10 to the k. */
        long sureTop(int a, int b, int k) {
            return power(10, k) - power(losses[a][b], k);
        }

        int fewestDoubles(int a, int b, int n, int d) {
            if (!isRoad(a, b)) return NONE;
            for (int k = 1; k <= MOST_DOUBLES; k++) {
                if (sureTop(a, b, k) * d >= n * power(10, k)) return k;
            }
            return NONE;
        }
    }

    private static final class Birds {
        private int count = 0;
        private final int[] homes = new int[MOST_BIRDS];
        private final int[] towns = new int[MOST_BIRDS];
        private final int[] states = new int[MOST_BIRDS];
        private final int[] restUntil = new int[MOST_BIRDS];
        private final int[] letters = new int[MOST_BIRDS];
        // by HOME and TOWN
        private final int[][] waiting = new int[MOST_TOWNS][MOST_TOWNS];

        int add(int home) {
            int bird = count;
            count++;
            homes[bird] = home;
            letters[bird] = NONE;
            settle(bird, home);
            return bird;
        }

        void settle(int bird, int town) {
            states[bird] = WAITS;
            towns[bird] = town;
            waiting[homes[bird]][town]++;
        }

        void leave(int bird) {
            waiting[homes[bird]][towns[bird]]--;
            towns[bird] = NONE;
        }

        boolean canFlyOff(int bird, int minute) {
            return states[bird] == WAITS && minute >= restUntil[bird] && towns[bird] != homes[bird];
        }

        void flyOff(int bird, int letter) {
            leave(bird);
            states[bird] = FLIES;
            letters[bird] = letter;
        }

        void comeHome(int bird, int minute) {
            letters[bird] = NONE;
            restUntil[bird] = minute + REST;
            settle(bird, homes[bird]);
        }

        void getLost(int bird) {
            letters[bird] = NONE;
            states[bird] = LOST;
        }

        boolean waitsAtHome(int bird, int home) {
            return homes[bird] == home && towns[bird] == home;
        }

        int answer(int bird, int what) {
            switch (what) {
                case 0: return homes[bird];
                case 1: return towns[bird];
                case 2: return states[bird];
                case 3: return restUntil[bird];
                default: return letters[bird];
            }
        }
    }

    /** Seeks the BEST RELAY and keeps the one found latest. */
    private static final class Relays {
        private final Towns towns;
        private final Birds birds;
        private final int[] path = new int[MOST_ROADS + 1];
        private final int[] tried = new int[MOST_ROADS];
        private final int[] most = new int[MOST_ROADS];
        private int goal = NONE;
        private int n = 0;
        private int d = 1;
        private int fewest = NONE;
        private int leastMinutes = 0;
        private final int[] foundPath = new int[MOST_ROADS + 1];
        private final int[] foundDoubles = new int[MOST_ROADS];
        private int foundRoads = 0;
        private long top = 0;
        private long bottom = 1;

        Relays(Towns towns, Birds birds) {
            this.towns = towns;
            this.birds = birds;
        }

        /** How many birds the BEST RELAY needs, or NONE; what was found ahead stays if there is none. */
        int seek(int from, int to, int newN, int newD) {
            path[0] = from;
            goal = to;
            n = newN;
            d = newD;
            fewest = NONE;
            extend(0);
            return fewest;
        }

        // TOWNS rise, then doubles: of RELAYS that are equally good the first comes first
        private void extend(int roads) {
            if (roads >= MOST_ROADS) return;
            for (int next = 0; next < towns.count; next++) {
                if (!canGoOn(roads, next)) continue;
                path[roads + 1] = next;
                if (next == goal) tryDoubles(roads + 1);
                else extend(roads + 1);
            }
        }

        private boolean canGoOn(int roads, int next) {
            for (int i = 0; i <= roads; i++) {
                if (path[i] == next) return false;
            }
            return towns.isRoad(path[roads], next) && birds.waiting[next][path[roads]] > 0;
        }

        private void tryDoubles(int roads) {
            int ways = 1;
            int minutes = 0;
            for (int i = 0; i < roads; i++) {
                tried[i] = 1;
                most[i] = Math.min(MOST_DOUBLES, birds.waiting[path[i + 1]][path[i]]);
                ways *= most[i];
                minutes += towns.minutes[path[i]][path[i + 1]];
            }
            for (int way = 0; way < ways; way++) {
                weigh(roads, minutes);
                goToNextDoubles(roads);
            }
        }

        private void goToNextDoubles(int roads) {
            for (int i = roads - 1; i >= 0; i--) {
                if (tried[i] < most[i]) {
                    tried[i]++;
                    return;
                }
                tried[i] = 1;
            }
        }

        private void weigh(int roads, int minutes) {
            int many = 0;
            long sureTop = 1;
            long sureBottom = 1;
            for (int i = 0; i < roads; i++) {
                many += tried[i];
                sureTop *= towns.sureTop(path[i], path[i + 1], tried[i]);
                sureBottom *= power(10, tried[i]);
            }
            if (sureTop * d < n * sureBottom || !isBetter(many, minutes)) return;
            fewest = many;
            leastMinutes = minutes;
            foundRoads = roads;
            top = sureTop;
            bottom = sureBottom;
            System.arraycopy(path, 0, foundPath, 0, roads + 1);
            System.arraycopy(tried, 0, foundDoubles, 0, roads);
        }

        private boolean isBetter(int many, int minutes) {
            if (fewest == NONE || many < fewest) return true;
            return many == fewest && minutes < leastMinutes;
        }
    }

    /** Plans the BEST CARRYING of a HOME: in loads, a number to each TOWN. */
    private static final class Baskets {
        // above all FARES together, so that WORTH counts first
        private static final long WORTH_AHEAD = 1000000;

        private final Towns towns;
        private final Birds birds;
        // by TOWN and HOME
        private final int[][] wanted = new int[MOST_TOWNS][MOST_TOWNS];
        private final int[][] worths = new int[MOST_TOWNS][MOST_TOWNS];
        // by TOWN and birds left: what this TOWN and those behind it bring at best, and its load for that
        private final long[][] gains = new long[MOST_TOWNS + 1][MOST_BIRDS + 1];
        private final int[][] choices = new int[MOST_TOWNS][MOST_BIRDS + 1];
        private final int[] loads = new int[MOST_TOWNS];

        Baskets(Towns towns, Birds birds) {
            this.towns = towns;
            this.birds = birds;
        }

        int lacked(int town, int home) {
            return Math.max(0, wanted[town][home] - birds.waiting[home][town]);
        }

        void plan(int home) {
            int left = birds.waiting[home][home];
            for (int town = MOST_TOWNS - 1; town >= 0; town--) weighTown(town, home, left);
            for (int town = 0; town < MOST_TOWNS; town++) {
                loads[town] = choices[town][left];
                left -= loads[town];
            }
        }

        private void weighTown(int town, int home, int birdsAtMost) {
            int lack = lacked(town, home);
            for (int left = 0; left <= birdsAtMost; left++) {
                choices[town][left] = 0;
                gains[town][left] = gains[town + 1][left];
                for (int load = 1; load <= lack && load <= left; load++) {
                    long gain = worthOf(town, home, load) * WORTH_AHEAD - fareOf(town, home, load)
                        + gains[town + 1][left - load];
                    // of equal ones the greater load: TOWN by TOWN the more birds
                    if (gain >= gains[town][left]) {
                        choices[town][left] = load;
                        gains[town][left] = gain;
                    }
                }
            }
        }

        private long worthOf(int town, int home, int load) {
            return (long) load * worths[town][home];
        }

        private long fareOf(int town, int home, int load) {
            return (long) ((load + BASKET - 1) / BASKET) * towns.fares[home][town];
        }

        int worthTogether(int home) {
            long together = 0;
            for (int town = 0; town < MOST_TOWNS; town++) together += worthOf(town, home, loads[town]);
            return (int) together;
        }

        int faresTogether(int home) {
            long together = 0;
            for (int town = 0; town < MOST_TOWNS; town++) together += fareOf(town, home, loads[town]);
            return (int) together;
        }

        /** Carries the loads out, the BIRDS with the least numbers first: how many went. */
        int carryOut(int home) {
            int bird = 0;
            int gone = 0;
            for (int town = 0; town < MOST_TOWNS; town++) {
                int still = loads[town];
                for (; still > 0 && bird < birds.count; bird++) {
                    if (!birds.waitsAtHome(bird, home)) continue;
                    birds.leave(bird);
                    birds.settle(bird, town);
                    still--;
                    gone++;
                }
            }
            return gone;
        }
    }

    private static final class Letters {
        private int count = 0;
        private final int[] lengths = new int[MOST_LETTERS];
        private final int[][] bytes = new int[MOST_LETTERS][LONGEST_LETTER];
        private final int[][] copies = new int[MOST_LETTERS][GOT_LOST + 1];
        // by LETTER and TOWN: the minute from which on it KNOWS it, and a bit for each byte that is there
        private final int[][] since = new int[MOST_LETTERS][MOST_TOWNS];
        private final long[][] there = new long[MOST_LETTERS][MOST_TOWNS];

        int add(int town, long[] row, int many, int minute) {
            int letter = count;
            count++;
            lengths[letter] = many;
            for (int k = 0; k < many && k < row.length; k++) bytes[letter][k] = (int) row[k];
            Arrays.fill(since[letter], NONE);
            since[letter][town] = minute;
            there[letter][town] = allOf(many);
            return letter;
        }

        /** A COPY comes to a TOWN without its bytes from a place to a place: whether it KNOWS the LETTER by that. */
        boolean join(int letter, int town, int from, int to, int minute) {
            long whole = allOf(lengths[letter]);
            long torn = from == NONE ? 0 : allOf(to - from + 1) << from;
            there[letter][town] |= whole & ~torn;
            if (since[letter][town] != NONE || there[letter][town] != whole) return false;
            since[letter][town] = minute;
            return true;
        }

        int byteThere(int letter, int town, int k) {
            return (there[letter][town] >> k & 1) == 1 ? bytes[letter][k] : 0;
        }

        private static long allOf(int many) {
            return (1L << many) - 1;
        }
    }

    private static final class Clocks {
        private final int[] counts = new int[MOST_TOWNS];
        private final int[][] minutes = new int[MOST_TOWNS][MOST_READINGS];
        private final int[][] numbers = new int[MOST_TOWNS][MOST_READINGS];

        boolean isAboveLatest(int town, int minute, int number) {
            int latest = counts[town] - 1;
            return latest < 0 || minute > minutes[town][latest] && number > numbers[town][latest];
        }

        void add(int town, int minute, int number) {
            minutes[town][counts[town]] = minute;
            numbers[town][counts[town]] = number;
            counts[town]++;
        }

        void tellRight(int town, int number, Fraction fraction) {
            int ahead = latestUpTo(town, number);
            int from = Math.max(0, ahead);
            long beyond = number - numbers[town][from];
            if (ahead < 0 || ahead == counts[town] - 1) {
                fraction.tell(minutes[town][from] + beyond, 1);
                return;
            }
            long onClock = numbers[town][from + 1] - numbers[town][from];
            long inTruth = minutes[town][from + 1] - minutes[town][from];
            fraction.tell(minutes[town][from] * onClock + beyond * inTruth, onClock);
        }

        /** The latest READING with a number not above this one, or NONE. */
        private int latestUpTo(int town, int number) {
            int latest = NONE;
            for (int i = 0; i < counts[town]; i++) {
                if (numbers[town][i] <= number) latest = i;
            }
            return latest;
        }
    }
}
