/** Galloping machines, as ../shared/DOC.md tells them; the capital words of the comments are its terms. */
public final class GallopingRing {
    public static final int NONE = -1, UNKNOWN = -101, OUTSIDE = -102, STATE = -103, FULL = -104;

    private static final int PLACES = 12;
    private static final int MOST_HORSE_WEIGHT = 200;
    private static final int MOST_RIDER_WEIGHT = 150;
    private static final int MOST_SHAKING = 30000;
    private static final int MOST_LIFT = 5000;
    private static final int MOST_IN_GROUP = 3;
    private static final int MOST_GROUPS = 60;
    private static final int MOST_COATS = 8;
    private static final int MOST_COLOUR = 99;
    private static final int LEGS_EACH = 4;
    private static final int LEGS_IN_ALL = PLACES * LEGS_EACH;
    private static final int MOST_FAIRS = 8;
    private static final int LAST_DAY = 400;
    private static final int MOST_GAIN = 10000;
    private static final int MOST_ROAD = 50;
    private static final int MOST_HOURS = 1000;
    private static final int TENTHS_AN_HOUR = 10;
    private static final int MOST_WAITING = 100;
    private static final int MOST_BOOKED = 100000;

    private static final int[] ACROSS = {10, 9, 5, 0, -5, -9, -10, -9, -5, 0, 5, 9};
    private static final int[] ALONG = {0, 5, 9, 10, 9, 5, 0, -5, -9, -10, -9, -5};

    private final Ring ring = new Ring();
    private final Seating seating = new Seating();
    private final Coats coats = new Coats();
    private final Legs legs = new Legs();
    private final Fairs fairs = new Fairs();
    private final ChildQueue queue = new ChildQueue();
    private int groupsDone = 0;
    private int hoursAllowed = 100;
    private int tenthsRun = 0;
    private int tokensTaken = 0;

    public GallopingRing() {
    }

    public int horse(int p, int weight, int colour) {
        if (!isPlace(p)) {
            return UNKNOWN;
        }
        if (!isWithin(weight, 1, MOST_HORSE_WEIGHT) || !isWithin(colour, 0, MOST_COLOUR)) {
            return OUTSIDE;
        }
        if (ring.hasHorse(p)) {
            return STATE;
        }
        ring.putHorse(p, weight);
        coats.paintOver(p, colour);
        return ring.horsesStanding();
    }

    public int leave(int p) {
        if (!ring.hasHorse(p)) {
            return UNKNOWN;
        }
        if (ring.hasRider(p) || !legs.areOwn(p)) {
            return STATE;
        }
        coats.clear(p);
        return ring.takeHorse(p);
    }

    public int sit(int p, int weight) {
        if (!ring.hasHorse(p)) {
            return UNKNOWN;
        }
        if (!isRiderWeight(weight)) {
            return OUTSIDE;
        }
        if (ring.hasRider(p) || !ring.mayTurnWith(p, weight)) {
            return STATE;
        }
        ring.putRider(p, weight);
        return ring.shakeNow();
    }

    public int rise(int p) {
        if (!ring.hasHorse(p)) {
            return UNKNOWN;
        }
        if (!ring.hasRider(p)) {
            return STATE;
        }
        return ring.takeRider(p);
    }

    public int shake() {
        return ring.shakeNow();
    }

    public int rising() {
        return ring.lifted;
    }

    public int may() {
        return ring.mayTurn() ? 1 : 0;
    }

    public int law(int which, int v) {
        if (which == 0) {
            return lawOfShaking(v);
        }
        if (which == 1) {
            return lawOfLift(v);
        }
        return UNKNOWN;
    }

    public int best(int weight) {
        return isRiderWeight(weight) ? ring.bestHorse(weight) : OUTSIDE;
    }

    public int group(int n, int a, int b, int c) {
        if (!isGroup(n, a, b, c)) {
            return OUTSIDE;
        }
        if (groupsDone >= MOST_GROUPS) {
            return STATE;
        }
        groupsDone++; // NONE is no refusal: such a GROUP was done too
        if (ring.freeHorses() < n) {
            return NONE;
        }
        seating.choose(ring, n, a, b, c);
        seating.seatAll(ring);
        return ring.shakeNow();
    }

    public int rider(int p) {
        return isPlace(p) ? ring.riderWeights[p] : UNKNOWN;
    }

    public int coat(int p, int colour) {
        if (!ring.hasHorse(p)) {
            return UNKNOWN;
        }
        if (!isWithin(colour, 0, MOST_COLOUR)) {
            return OUTSIDE;
        }
        if (coats.numbers[p] >= MOST_COATS) {
            return FULL;
        }
        coats.paintOver(p, colour);
        return coats.numbers[p];
    }

    public int sample(int p, int k) {
        return ring.hasHorse(p) ? coats.colourAtDepth(p, k) : UNKNOWN;
    }

    public int strip(int p, int colour) {
        if (!ring.hasHorse(p)) {
            return UNKNOWN;
        }
        int depth = coats.depthOf(p, colour);
        if (depth == NONE) {
            return OUTSIDE;
        }
        coats.takeOff(p, depth);
        return depth;
    }

    public int swap(int p, int leg, int q, int other) {
        if (!isLegOfHorse(p, leg) || !isLegOfHorse(q, other)) {
            return UNKNOWN;
        }
        if (p == q && leg == other) {
            return OUTSIDE;
        }
        legs.exchange(legNumber(p, leg), legNumber(q, other));
        return 1;
    }

    public int mark(int p, int leg) {
        return isLegOfHorse(p, leg) ? legs.marks[legNumber(p, leg)] : UNKNOWN;
    }

    public int swaps() {
        return legs.fewestSwaps();
    }

    public int find(int p, int leg) {
        if (!isPlace(p) || !isLeg(leg)) {
            return UNKNOWN;
        }
        return ring.hasHorse(p) ? legs.whereIs(legNumber(p, leg)) : NONE;
    }

    public int fair(int from, int to, int earns) {
        if (!isWithin(from, 0, LAST_DAY) || !isWithin(to, from, LAST_DAY) || !isWithin(earns, 0, MOST_GAIN)) {
            return OUTSIDE;
        }
        if (fairs.number >= MOST_FAIRS) {
            return FULL;
        }
        return fairs.announce(from, to, earns);
    }

    public int road(int a, int b, int d) {
        if (!fairs.isFair(a) || !fairs.isFair(b)) {
            return UNKNOWN;
        }
        if (!isWithin(d, 0, MOST_ROAD) || a == b) {
            return OUTSIDE;
        }
        int before = fairs.daysBetween(a, b);
        fairs.layRoad(a, b, d);
        return before;
    }

    public int earns() {
        fairs.planRounds();
        return fairs.gainFrom(fairs.bestBehind(NONE));
    }

    public int round(int k) {
        if (!fairs.isFair(k)) {
            return NONE; // a ROUND has no more FAIRS than there are
        }
        fairs.planRounds();
        return fairs.fairOfBestRound(k);
    }

    public int turn() {
        if (!ring.mayTurn() || tenthsRun >= hoursAllowed * TENTHS_AN_HOUR) {
            return STATE;
        }
        int tokens = ring.ridersSitting();
        ring.takeAllRiders();
        tenthsRun++;
        tokensTaken += tokens;
        return tokens;
    }

    public int look() {
        int run = tenthsRun;
        tenthsRun = 0;
        return run;
    }

    public int hours(int h) {
        if (!isWithin(h, 1, MOST_HOURS)) {
            return OUTSIDE;
        }
        int before = hoursAllowed;
        hoursAllowed = h;
        return before;
    }

    public int come(int weight) {
        if (!isRiderWeight(weight)) {
            return OUTSIDE;
        }
        if (queue.waiting >= MOST_WAITING) {
            return FULL;
        }
        queue.join(weight);
        return queue.waiting;
    }

    public int next() {
        if (queue.waiting == 0) {
            return NONE;
        }
        int p = ring.bestHorse(queue.weights[0]);
        if (p != NONE) {
            ring.putRider(p, queue.weights[0]);
            queue.dropFirst();
        }
        return p;
    }

    public int book(int n) {
        if (!isWithin(n, 0, MOST_BOOKED)) {
            return OUTSIDE;
        }
        int taken = tokensTaken;
        tokensTaken = 0;
        return taken - n;
    }

    public int count(int what) {
        switch (what) {
            case 0:
                return ring.horsesStanding();
            case 1:
                return ring.ridersSitting();
            case 2:
                return queue.waiting;
            case 3:
                return fairs.number;
            case 4:
                return tenthsRun;
            case 5:
                return tokensTaken;
            case 6:
                return ring.loadInAll;
            case 7:
                return groupsDone;
            default:
                return OUTSIDE;
        }
    }

    public long digest() {
        long h = 193;
        for (int p = 0; p < PLACES; p++) {
            h = mixPlace(h, p);
        }
        h = mix(h, ring.shaking);
        h = mix(h, ring.lift);
        h = fairs.mixAll(h);
        h = mix(h, hoursAllowed);
        h = mix(h, tenthsRun);
        h = mix(h, tokensTaken);
        h = mix(h, groupsDone);
        return queue.mixAll(h);
    }

    private int lawOfShaking(int v) {
        if (!isWithin(v, 0, MOST_SHAKING)) {
            return OUTSIDE;
        }
        int before = ring.shaking;
        ring.shaking = v;
        return before;
    }

    private int lawOfLift(int v) {
        if (!isWithin(v, 0, MOST_LIFT)) {
            return OUTSIDE;
        }
        int before = ring.lift;
        ring.lift = v;
        return before;
    }

    private boolean isLegOfHorse(int p, int leg) {
        return ring.hasHorse(p) && isLeg(leg);
    }

    private long mixPlace(long h, int p) {
        if (!ring.hasHorse(p)) {
            return mix(h, 0);
        }
        long mixed = mix(mix(h, ring.horseWeights[p]), ring.riderWeights[p]);
        return legs.mixLegs(coats.mixCoats(mixed, p), p);
    }

    private static long mix(long h, int number) {
        return 31 * h + number;
    }

    private static boolean isWithin(int v, int least, int most) {
        return v >= least && v <= most;
    }

    private static boolean isPlace(int p) {
        return p >= 0 && p < PLACES;
    }

    private static boolean isLeg(int leg) {
        return leg >= 0 && leg < LEGS_EACH;
    }

    private static int legNumber(int p, int leg) {
        return LEGS_EACH * p + leg;
    }

    private static boolean isRiderWeight(int weight) {
        return isWithin(weight, 1, MOST_RIDER_WEIGHT);
    }

    // The weights behind the n-th are not looked at: no RIDER of the GROUP has them.
    private static boolean isGroup(int n, int a, int b, int c) {
        return isWithin(n, 1, MOST_IN_GROUP) && isRiderWeight(a)
                && (n < 2 || isRiderWeight(b)) && (n < 3 || isRiderWeight(c));
    }

    private static int shakeOf(int across, int along) {
        return across * across + along * along;
    }

    /** What HORSES and RIDERS WEIGH at each PLACE (0: none there), and the law that they are held to. */
    private static final class Ring {
        private final int[] horseWeights = new int[PLACES];
        private final int[] riderWeights = new int[PLACES];
        private int shaking = 3000;
        private int lift = 5000;
        // Sums over all LOADS, kept as LOADS come and go, so that trying a RIDER is cheap.
        private int across = 0;
        private int along = 0;
        private int lifted = 0;
        private int loadInAll = 0;

        private boolean hasHorse(int p) {
            return isPlace(p) && horseWeights[p] > 0;
        }

        private boolean hasRider(int p) {
            return isPlace(p) && riderWeights[p] > 0;
        }

        private boolean isFree(int p) {
            return hasHorse(p) && !hasRider(p);
        }

        private void putHorse(int p, int weight) {
            horseWeights[p] = weight;
            addLoad(p, weight);
        }

        private int takeHorse(int p) {
            int weight = horseWeights[p];
            horseWeights[p] = 0;
            addLoad(p, -weight);
            return weight;
        }

        private void putRider(int p, int weight) {
            riderWeights[p] = weight;
            addLoad(p, weight);
        }

        private int takeRider(int p) {
            int weight = riderWeights[p];
            riderWeights[p] = 0;
            addLoad(p, -weight);
            return weight;
        }

        private void takeAllRiders() {
            for (int p = 0; p < PLACES; p++) {
                takeRider(p);
            }
        }

        private void addLoad(int p, int weight) {
            across += weight * ACROSS[p];
            along += weight * ALONG[p];
            lifted += liftOf(p, weight);
            loadInAll += weight;
        }

        // Modulo 4 the even PLACES are at 0 and 2, the odd ones at 1 and 3.
        private static int liftOf(int p, int weight) {
            return p % 2 == 0 ? weight : -weight;
        }

        private int shakeNow() {
            return shakeOf(across, along);
        }

        private int shakeWith(int p, int weight) {
            return shakeOf(across + weight * ACROSS[p], along + weight * ALONG[p]);
        }

        private boolean mayTurn() {
            return isLawful(shakeNow(), lifted);
        }

        private boolean mayTurnWith(int p, int weight) {
            return isLawful(shakeWith(p, weight), lifted + liftOf(p, weight));
        }

        private boolean isLawful(int shakeThen, int liftedThen) {
            return shakeThen <= shaking * shaking && Math.abs(liftedThen) <= lift;
        }

        private int bestHorse(int weight) {
            int found = NONE;
            int least = 0;
            for (int p = 0; p < PLACES; p++) {
                if (isFree(p) && mayTurnWith(p, weight)) {
                    int shakeThen = shakeWith(p, weight);
                    if (found == NONE || shakeThen < least) {
                        found = p;
                        least = shakeThen;
                    }
                }
            }
            return found;
        }

        private int horsesStanding() {
            return numberAboveZero(horseWeights);
        }

        private int ridersSitting() {
            return numberAboveZero(riderWeights);
        }

        private int freeHorses() {
            return horsesStanding() - ridersSitting();
        }

        private static int numberAboveZero(int[] weights) {
            int number = 0;
            for (int weight : weights) {
                if (weight > 0) {
                    number++;
                }
            }
            return number;
        }
    }

    /** Looks for the PLACES where a GROUP is SEATED BEST. */
    private static final class Seating {
        private final int[] weights = new int[MOST_IN_GROUP];
        private final int[] tried = new int[MOST_IN_GROUP];
        private final int[] chosen = new int[MOST_IN_GROUP];
        private int size = 0;
        private int leastShake = NONE;

        private void choose(Ring ring, int n, int a, int b, int c) {
            weights[0] = a;
            weights[1] = b;
            weights[2] = c;
            size = n;
            leastShake = NONE;
            tryRiders(this, ring, 0, ring.across, ring.along);
        }

        // Ways are tried in the order that settles ties, so only a lesser SHAKE displaces one.
        private static void tryRiders(Seating way, Ring ring, int seated, int across, int along) {
            if (seated >= way.size || seated >= MOST_IN_GROUP) {
                way.keepIfLess(shakeOf(across, along));
                return;
            }
            int weight = way.weights[seated];
            for (int p = 0; p < PLACES; p++) {
                if (ring.isFree(p) && !way.isTaken(p, seated)) {
                    way.tried[seated] = p;
                    tryRiders(way, ring, seated + 1, across + weight * ACROSS[p], along + weight * ALONG[p]);
                }
            }
        }

        private boolean isTaken(int p, int seated) {
            for (int i = 0; i < seated; i++) {
                if (tried[i] == p) {
                    return true;
                }
            }
            return false;
        }

        private void keepIfLess(int shakeThen) {
            if (leastShake == NONE || shakeThen < leastShake) {
                leastShake = shakeThen;
                System.arraycopy(tried, 0, chosen, 0, MOST_IN_GROUP);
            }
        }

        private void seatAll(Ring ring) {
            for (int i = 0; i < size; i++) {
                ring.putRider(chosen[i], weights[i]);
            }
        }
    }

    /** The COATS of each PLACE's HORSE, the undermost first. */
    private static final class Coats {
        private final int[] colours = new int[PLACES * MOST_COATS];
        private final int[] numbers = new int[PLACES];

        private void paintOver(int p, int colour) {
            colours[MOST_COATS * p + numbers[p]] = colour;
            numbers[p]++;
        }

        private void clear(int p) {
            numbers[p] = 0;
        }

        private void takeOff(int p, int number) {
            numbers[p] -= number;
        }

        private int colourAtDepth(int p, int k) {
            if (!isWithin(k, 0, numbers[p] - 1)) {
                return NONE;
            }
            return colours[MOST_COATS * p + numbers[p] - 1 - k];
        }

        private int depthOf(int p, int colour) {
            for (int k = 0; k < numbers[p]; k++) {
                if (colourAtDepth(p, k) == colour) {
                    return k;
                }
            }
            return NONE;
        }

        private long mixCoats(long h, int p) {
            long mixed = mix(h, numbers[p]);
            for (int i = 0; i < numbers[p]; i++) {
                mixed = mix(mixed, colours[MOST_COATS * p + i]);
            }
            return mixed;
        }
    }

    /**
     * The MARK of each LEG, by 4 PLACE and LEG. A PLACE without a HORSE has MARKS of its own (no HORSE leaves
     * without them), so that a HORSE that comes finds its LEGS, and the MARKS are 0 to 47 in some order.
     */
    private static final class Legs {
        private static final int WALKED = -1;

        private final int[] marks = new int[LEGS_IN_ALL];
        private final int[] toWalk = new int[LEGS_IN_ALL];

        private Legs() {
            for (int at = 0; at < LEGS_IN_ALL; at++) {
                marks[at] = at;
            }
        }

        // A MARK tells HORSE and LEG: LEGS that changed about on one HORSE are not its own either.
        private boolean areOwn(int p) {
            for (int leg = 0; leg < LEGS_EACH; leg++) {
                if (marks[legNumber(p, leg)] != legNumber(p, leg)) {
                    return false;
                }
            }
            return true;
        }

        private void exchange(int at, int other) {
            int carried = marks[at];
            marks[at] = marks[other];
            marks[other] = carried;
        }

        private int whereIs(int carvedFor) {
            for (int at = 0; at < LEGS_IN_ALL; at++) {
                if (marks[at] == carvedFor) {
                    return at;
                }
            }
            return NONE;
        }

        // A cycle of n LEGS takes n - 1 SWAPS: each puts one LEG right, and the last one two.
        private int fewestSwaps() {
            System.arraycopy(marks, 0, toWalk, 0, LEGS_IN_ALL);
            int fewest = 0;
            for (int start = 0; start < LEGS_IN_ALL; start++) {
                if (toWalk[start] != WALKED) {
                    fewest += walkCycle(start) - 1;
                }
            }
            return fewest;
        }

        private int walkCycle(int start) {
            int at = start;
            int length = 0;
            while (length < LEGS_IN_ALL && isWithin(at, 0, LEGS_IN_ALL - 1) && toWalk[at] != WALKED) {
                int carvedFor = toWalk[at];
                toWalk[at] = WALKED;
                at = carvedFor;
                length++;
            }
            return length;
        }

        private long mixLegs(long h, int p) {
            long mixed = h;
            for (int leg = 0; leg < LEGS_EACH; leg++) {
                mixed = mix(mixed, marks[legNumber(p, leg)]);
            }
            return mixed;
        }
    }

    /** FAIRS, ROADS, and of each FAIR the best ROUND that begins with it. */
    private static final class Fairs {
        private final int[] begins = new int[MOST_FAIRS];
        private final int[] ends = new int[MOST_FAIRS];
        private final int[] gains = new int[MOST_FAIRS];
        private final int[] days = new int[MOST_FAIRS * MOST_FAIRS];
        private int number = 0;
        // As planRounds() left them: what the ROUND earns, of how many FAIRS it is, the FAIR behind its first.
        private final int[] roundGains = new int[MOST_FAIRS];
        private final int[] roundLengths = new int[MOST_FAIRS];
        private final int[] followers = new int[MOST_FAIRS];

        private boolean isFair(int f) {
            return f >= 0 && f < number;
        }

        private int announce(int from, int to, int gain) {
            int f = number;
            begins[f] = from;
            ends[f] = to;
            gains[f] = gain;
            number++;
            return f;
        }

        private int daysBetween(int a, int b) {
            return days[MOST_FAIRS * a + b];
        }

        private void layRoad(int a, int b, int d) {
            days[MOST_FAIRS * a + b] = d;
            days[MOST_FAIRS * b + a] = d;
        }

        // A pass settles each FAIR whose followers are settled; a ROUND of all FAIRS needs as many passes.
        private void planRounds() {
            for (int pass = 0; pass < number; pass++) {
                for (int f = 0; f < number; f++) {
                    planFrom(f);
                }
            }
        }

        private void planFrom(int f) {
            int behind = bestBehind(f);
            followers[f] = behind;
            roundGains[f] = gains[f] + gainFrom(behind);
            roundLengths[f] = 1 + lengthFrom(behind);
        }

        // NONE ahead: with which FAIR to begin. NONE as the answer: going on (or beginning) earns nothing more.
        private int bestBehind(int ahead) {
            int found = NONE;
            for (int f = 0; f < number; f++) {
                if (mayFollow(ahead, f) && isBetter(f, found)) {
                    found = f;
                }
            }
            return found;
        }

        private boolean mayFollow(int ahead, int f) {
            return !isFair(ahead) || begins[f] > ends[ahead] + daysBetween(ahead, f);
        }

        // FAIRS are compared as numbers rise, so of like ROUNDS the one with the least numbers stays.
        private boolean isBetter(int f, int than) {
            int gain = gainFrom(than);
            return roundGains[f] > gain || roundGains[f] == gain && roundLengths[f] < lengthFrom(than);
        }

        private int gainFrom(int f) {
            return isFair(f) ? roundGains[f] : 0;
        }

        private int lengthFrom(int f) {
            return isFair(f) ? roundLengths[f] : 0;
        }

        private int fairOfBestRound(int k) {
            int f = bestBehind(NONE);
            for (int i = 0; i < k && isFair(f); i++) {
                f = followers[f];
            }
            return f;
        }

        private long mixAll(long h) {
            long mixed = h;
            for (int f = 0; f < number; f++) {
                mixed = mix(mix(mix(mixed, begins[f]), ends[f]), gains[f]);
                for (int behind = f + 1; behind < number; behind++) {
                    mixed = mix(mixed, daysBetween(f, behind));
                }
            }
            return mixed;
        }
    }

    /** What the children that wait WEIGH, the first first. */
    private static final class ChildQueue {
        private final int[] weights = new int[MOST_WAITING];
        private int waiting = 0;

        private void join(int weight) {
            weights[waiting] = weight;
            waiting++;
        }

        private void dropFirst() {
            waiting--;
            System.arraycopy(weights, 1, weights, 0, waiting);
        }

        private long mixAll(long h) {
            long mixed = h;
            for (int i = 0; i < waiting; i++) {
                mixed = mix(mixed, weights[i]);
            }
            return mixed;
        }
    }
}
