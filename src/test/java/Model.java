import java.util.ArrayDeque;
import java.util.ArrayList;
import java.util.Deque;
import java.util.List;
import java.util.TreeMap;

/** The document once more, told as plainly and as slowly as can be, for ModelTest to compare with. */
public final class Model {
    private static final int NONE = -1, UNKNOWN = -101, OUTSIDE = -102, STATE = -103, FULL = -104;
    private static final int[][] NUMBERS = {
        {10, 0}, {9, 5}, {5, 9}, {0, 10}, {-5, 9}, {-9, 5}, {-10, 0}, {-9, -5}, {-5, -9}, {0, -10}, {5, -9}, {9, -5},
    };

    private static final class Horse {
        private int weight;
        private int rider;
        private final List<Integer> coats = new ArrayList<>();
        private final int[] legs = new int[4];
    }

    private final TreeMap<Integer, Horse> horses = new TreeMap<>();
    private final List<int[]> fairs = new ArrayList<>();
    private final TreeMap<Integer, Integer> roads = new TreeMap<>();
    private final Deque<Integer> queue = new ArrayDeque<>();
    private int shaking = 3000, lift = 5000, hours = 100, tenths, tokens, groups;

    private static boolean in(int v, int least, int most) {
        return least <= v && v <= most;
    }

    public int horse(int p, int weight, int colour) {
        if (!in(p, 0, 11)) return UNKNOWN;
        if (!in(weight, 1, 200) || !in(colour, 0, 99)) return OUTSIDE;
        if (horses.containsKey(p)) return STATE;
        Horse horse = new Horse();
        horse.weight = weight;
        horse.coats.add(colour);
        for (int leg = 0; leg < 4; leg++) horse.legs[leg] = 4 * p + leg;
        horses.put(p, horse);
        return horses.size();
    }

    public int leave(int p) {
        Horse horse = horses.get(p);
        if (horse == null) return UNKNOWN;
        if (horse.rider > 0) return STATE;
        for (int leg = 0; leg < 4; leg++) if (horse.legs[leg] != 4 * p + leg) return STATE;
        horses.remove(p);
        return horse.weight;
    }

    public int sit(int p, int weight) {
        Horse horse = horses.get(p);
        if (horse == null) return UNKNOWN;
        if (!in(weight, 1, 150)) return OUTSIDE;
        if (horse.rider > 0) return STATE;
        horse.rider = weight;
        if (may() == 1) return shake();
        horse.rider = 0;
        return STATE;
    }

    public int rise(int p) {
        Horse horse = horses.get(p);
        if (horse == null) return UNKNOWN;
        if (horse.rider == 0) return STATE;
        int weight = horse.rider;
        horse.rider = 0;
        return weight;
    }

    public int shake() {
        int[] sums = new int[2];
        for (int p : horses.keySet()) {
            for (int i = 0; i < 2; i++) sums[i] += (horses.get(p).weight + horses.get(p).rider) * NUMBERS[p][i];
        }
        return sums[0] * sums[0] + sums[1] * sums[1];
    }

    public int rising() {
        int sum = 0;
        for (int p : horses.keySet()) {
            int load = horses.get(p).weight + horses.get(p).rider;
            sum += p % 4 == 0 || p % 4 == 2 ? load : -load;
        }
        return sum;
    }

    public int may() {
        return shake() <= shaking * shaking && Math.abs(rising()) <= lift ? 1 : 0;
    }

    public int law(int which, int v) {
        if (!in(which, 0, 1)) return UNKNOWN;
        if (!in(v, 0, which == 0 ? 30000 : 5000)) return OUTSIDE;
        int before = which == 0 ? shaking : lift;
        if (which == 0) shaking = v; else lift = v;
        return before;
    }

    public int best(int weight) {
        if (!in(weight, 1, 150)) return OUTSIDE;
        int found = NONE, least = Integer.MAX_VALUE;
        for (int p : horses.keySet()) {
            int shake = sit(p, weight);
            if (shake < 0) continue;
            horses.get(p).rider = 0;
            if (shake < least) {
                found = p;
                least = shake;
            }
        }
        return found;
    }

    public int group(int n, int a, int b, int c) {
        int[] weights = {a, b, c};
        if (!in(n, 1, 3)) return OUTSIDE;
        for (int i = 0; i < n; i++) if (!in(weights[i], 1, 150)) return OUTSIDE;
        if (groups == 60) return STATE;
        groups++;
        int least = Integer.MAX_VALUE;
        int[] found = null;
        int ways = n == 1 ? 12 : n == 2 ? 144 : 1728;
        for (int way = 0; way < ways; way++) {
            int[] places = new int[n];
            for (int i = n - 1, rest = way; i >= 0; i--, rest /= 12) places[i] = rest % 12;
            if (!seat(places, weights)) continue;
            if (shake() < least) {
                least = shake();
                found = places;
            }
            for (int p : places) horses.get(p).rider = 0;
        }
        if (found == null) return NONE;
        seat(found, weights);
        return shake();
    }

    private boolean seat(int[] places, int[] weights) {
        for (int i = 0; i < places.length; i++) {
            Horse horse = horses.get(places[i]);
            if (horse == null || horse.rider > 0) {
                for (int j = 0; j < i; j++) horses.get(places[j]).rider = 0;
                return false;
            }
            horse.rider = weights[i];
        }
        return true;
    }

    public int rider(int p) {
        if (!in(p, 0, 11)) return UNKNOWN;
        return horses.containsKey(p) ? horses.get(p).rider : 0;
    }

    public int coat(int p, int colour) {
        Horse horse = horses.get(p);
        if (horse == null) return UNKNOWN;
        if (!in(colour, 0, 99)) return OUTSIDE;
        if (horse.coats.size() == 8) return FULL;
        horse.coats.add(colour);
        return horse.coats.size();
    }

    public int sample(int p, int k) {
        Horse horse = horses.get(p);
        if (horse == null) return UNKNOWN;
        return in(k, 0, horse.coats.size() - 1) ? horse.coats.get(horse.coats.size() - 1 - k) : NONE;
    }

    public int strip(int p, int colour) {
        Horse horse = horses.get(p);
        if (horse == null) return UNKNOWN;
        int at = horse.coats.lastIndexOf(colour);
        if (at < 0) return OUTSIDE;
        int went = 0;
        while (horse.coats.size() > at + 1) {
            horse.coats.remove(horse.coats.size() - 1);
            went++;
        }
        return went;
    }

    public int swap(int p, int leg, int q, int other) {
        if (mark(p, leg) == UNKNOWN || mark(q, other) == UNKNOWN) return UNKNOWN;
        if (p == q && leg == other) return OUTSIDE;
        int mark = mark(p, leg);
        horses.get(p).legs[leg] = mark(q, other);
        horses.get(q).legs[other] = mark;
        return 1;
    }

    public int mark(int p, int leg) {
        return horses.containsKey(p) && in(leg, 0, 3) ? horses.get(p).legs[leg] : UNKNOWN;
    }

    /** Puts LEGS right one by one on a copy: each such swap is one that can't be saved. */
    public int swaps() {
        TreeMap<Integer, Integer> legs = new TreeMap<>();
        for (int p : horses.keySet()) for (int leg = 0; leg < 4; leg++) legs.put(4 * p + leg, mark(p, leg));
        int done = 0;
        for (int at : legs.keySet()) {
            while (legs.get(at) != at) {
                int home = legs.get(at);
                legs.put(at, legs.get(home));
                legs.put(home, home);
                done++;
            }
        }
        return done;
    }

    public int find(int p, int leg) {
        if (!in(p, 0, 11) || !in(leg, 0, 3)) return UNKNOWN;
        for (int at = 0; at < 48; at++) if (mark(at / 4, at % 4) == 4 * p + leg) return at;
        return NONE;
    }

    public int fair(int from, int to, int earns) {
        if (!in(from, 0, 400) || !in(to, 0, 400) || to < from || !in(earns, 0, 10000)) return OUTSIDE;
        if (fairs.size() == 8) return FULL;
        fairs.add(new int[] {from, to, earns});
        return fairs.size() - 1;
    }

    private int days(int a, int b) {
        return roads.getOrDefault(Math.min(a, b) * 8 + Math.max(a, b), 0);
    }

    public int road(int a, int b, int d) {
        if (!in(a, 0, fairs.size() - 1) || !in(b, 0, fairs.size() - 1)) return UNKNOWN;
        if (!in(d, 0, 50) || a == b) return OUTSIDE;
        int before = days(a, b);
        roads.put(Math.min(a, b) * 8 + Math.max(a, b), d);
        return before;
    }

    /** Every ROUND there is, each compared with the best one so far by all that the document says. */
    private List<Integer> bestRound() {
        List<List<Integer>> rounds = new ArrayList<>();
        rounds.add(new ArrayList<>());
        for (int i = 0; i < rounds.size(); i++) {
            List<Integer> round = rounds.get(i);
            for (int f = 0; f < fairs.size(); f++) {
                int last = round.isEmpty() ? NONE : round.get(round.size() - 1);
                if (last == NONE || fairs.get(last)[1] + days(last, f) < fairs.get(f)[0]) {
                    List<Integer> longer = new ArrayList<>(round);
                    longer.add(f);
                    rounds.add(longer);
                }
            }
        }
        rounds.sort((one, other) -> {
            if (earned(one) != earned(other)) return earned(other) - earned(one);
            if (one.size() != other.size()) return one.size() - other.size();
            for (int i = 0; i < one.size(); i++) {
                if (!one.get(i).equals(other.get(i))) return one.get(i) - other.get(i);
            }
            return 0;
        });
        return rounds.get(0);
    }

    private int earned(List<Integer> round) {
        int sum = 0;
        for (int f : round) sum += fairs.get(f)[2];
        return sum;
    }

    public int earns() {
        return earned(bestRound());
    }

    public int round(int k) {
        List<Integer> round = bestRound();
        return in(k, 0, round.size() - 1) ? round.get(k) : NONE;
    }

    public int turn() {
        if (may() == 0 || tenths + 1 > 10 * hours) return STATE;
        tenths++;
        int took = 0;
        for (Horse horse : horses.values()) {
            if (horse.rider > 0) took++;
            horse.rider = 0;
        }
        tokens += took;
        return took;
    }

    public int look() {
        int run = tenths;
        tenths = 0;
        return run;
    }

    public int hours(int h) {
        if (!in(h, 1, 1000)) return OUTSIDE;
        int before = hours;
        hours = h;
        return before;
    }

    public int come(int weight) {
        if (!in(weight, 1, 150)) return OUTSIDE;
        if (queue.size() == 100) return FULL;
        queue.add(weight);
        return queue.size();
    }

    public int next() {
        if (queue.isEmpty()) return NONE;
        int p = best(queue.peek());
        if (p == NONE) return NONE;
        sit(p, queue.remove());
        return p;
    }

    public int book(int n) {
        if (!in(n, 0, 100000)) return OUTSIDE;
        int less = tokens - n;
        tokens = 0;
        return less;
    }

    public int count(int what) {
        int riders = 0, loads = 0;
        for (Horse horse : horses.values()) {
            loads += horse.weight + horse.rider;
            if (horse.rider > 0) riders++;
        }
        int[] told = {horses.size(), riders, queue.size(), fairs.size(), tenths, tokens, loads, groups};
        return in(what, 0, 7) ? told[what] : OUTSIDE;
    }

    public long digest() {
        List<Integer> told = new ArrayList<>();
        for (int p = 0; p < 12; p++) {
            Horse horse = horses.get(p);
            told.add(horse == null ? 0 : horse.weight);
            if (horse == null) continue;
            told.add(horse.rider);
            told.add(horse.coats.size());
            told.addAll(horse.coats);
            for (int mark : horse.legs) told.add(mark);
        }
        told.add(shaking);
        told.add(lift);
        for (int f = 0; f < fairs.size(); f++) {
            for (int number : fairs.get(f)) told.add(number);
            for (int behind = f + 1; behind < fairs.size(); behind++) told.add(days(f, behind));
        }
        told.add(hours);
        for (int what : new int[] {4, 5, 7}) told.add(count(what));
        told.addAll(queue);
        long h = 193;
        for (int number : told) h = h * 31 + number;
        return h;
    }
}
