import java.util.ArrayList;
import java.util.List;

/**
 * Each call with each mix of arguments at and beyond its limits, made in several states: it answers as the plain
 * model does, and where that refuses, nothing is changed.
 */
public final class SweepTest {
    private static final int REFUSED = -101;
    private static final int[] PLACES = {-1, 0, 1, 2, 4, 11, 12};
    private static final int[] LEGS = {-1, 0, 3, 4};
    private static final int[] HORSE_WEIGHTS = {0, 1, 200, 201};
    private static final int[] RIDER_WEIGHTS = {0, 1, 150, 151};
    private static final int[] COLOURS = {-1, 0, 1, 26, 99, 100};
    private static final int[] DEPTHS = {-1, 0, 1, 7, 8};
    private static final int[] DAYS = {-1, 0, 1, 400, 401};
    private static final int[] GAINS = {-1, 0, 10000, 10001};
    private static final int[] FAIRS = {-1, 0, 1, 7, 8};
    private static final int[] ROADS = {-1, 0, 50, 51};
    private static final int[] LAWS = {-1, 0, 4999, 5000, 5001, 29999, 30000, 30001};
    private static final Check c = new Check("SweepTest");
    private static final Given none = Given.nothing(c);

    public static void main(String[] args) {
        for (Given state : new Given[] {none, few(), full(), spent()}) {
            GallopingRing spared = new GallopingRing();
            makeAll(spared, state.calls());
            String told = Told.of(spared);
            for (String call : everyCall()) {
                compare(state.calls(), told, call);
            }
        }
        c.finish();
    }

    private static Given few() {
        return none.then("horse 0 100 0", "horse 4 30 1", "coat 4 26", "sit 4 9", "turn", "sit 4 5", "fair 0 400 7",
            "fair 3 9 8", "swap 0 0 4 3", "horse 2 20 99", "coat 0 50", "come 30", "law 1 300", "group 1 9 0 0", "hours 2");
    }

    /** As many of everything as there may be; only RIDERS are few. */
    private static Given full() {
        Given run = none.then("law 0 30000");
        for (int p = 0; p < 12; p++) {
            run = run.then("horse " + p + " " + (10 + p) + " " + p);
        }
        for (int n = 0; n < 7; n++) {
            run = run.then("coat 0 " + (20 + n), "coat 11 " + (30 + n));
        }
        for (int f = 0; f < 8; f++) {
            run = run.then("fair " + 30 * f + " " + (30 * f + 4) + " " + (50 - f));
        }
        return run.times(100, "come 150").times(60, "group 1 1 1 1", "turn").then("look", "sit 11 7", "road 0 1 26");
    }

    /** Nothing may go on: the law blocks all, the HOURS are run, all HORSES but three bear a RIDER. */
    private static Given spent() {
        Given run = none.then("hours 1").times(10, "turn");
        for (int p = 0; p < 12; p++) {
            run = run.then("horse " + p + " 100 26", "sit " + p + " 3");
        }
        return run.then("coat 2 27", "coat 11 28", "rise 1", "rise 2", "rise 11", "law 0 0", "law 1 0", "come 1", "swap 2 0 2 1", "swap 11 3 0 0");
    }

    private static List<String> everyCall() {
        List<String> calls = new ArrayList<>();
        add(calls, "horse", PLACES, HORSE_WEIGHTS, COLOURS);
        add(calls, "leave", PLACES);
        add(calls, "sit", PLACES, RIDER_WEIGHTS);
        add(calls, "rise", PLACES);
        add(calls, "law", new int[] {-1, 0, 1, 2}, LAWS);
        add(calls, "best", RIDER_WEIGHTS);
        add(calls, "group", new int[] {0, 1, 2, 3, 4}, RIDER_WEIGHTS, RIDER_WEIGHTS, RIDER_WEIGHTS);
        add(calls, "rider", PLACES);
        add(calls, "coat", PLACES, COLOURS);
        add(calls, "sample", PLACES, DEPTHS);
        add(calls, "strip", PLACES, COLOURS);
        add(calls, "swap", PLACES, LEGS, PLACES, LEGS);
        add(calls, "mark", PLACES, LEGS);
        add(calls, "find", PLACES, LEGS);
        add(calls, "fair", DAYS, DAYS, GAINS);
        add(calls, "road", FAIRS, FAIRS, ROADS);
        add(calls, "round", FAIRS);
        add(calls, "hours", new int[] {-1, 0, 1, 1000, 1001});
        add(calls, "come", RIDER_WEIGHTS);
        add(calls, "book", new int[] {-1, 0, 1, 101, 102, 100000, 100001});
        add(calls, "count", new int[] {-1, 0, 1, 2, 3, 4, 5, 6, 7, 8});
        for (String call : new String[] {"shake", "rising", "may", "swaps", "earns", "turn", "look", "next", "digest"}) {
            calls.add(call);
        }
        return calls;
    }

    private static void add(List<String> calls, String name, int[]... ranges) {
        List<String> mixes = new ArrayList<>(List.of(name));
        for (int[] range : ranges) {
            List<String> longer = new ArrayList<>();
            for (String mix : mixes) {
                for (int argument : range) {
                    longer.add(mix + " " + argument);
                }
            }
            mixes = longer;
        }
        calls.addAll(mixes);
    }

    private static void makeAll(Object x, List<String> calls) {
        for (String call : calls) {
            Given.make(x, call);
        }
    }

    private static void compare(List<String> state, String toldBefore, String call) {
        GallopingRing ours = new GallopingRing();
        Model model = new Model();
        makeAll(ours, state);
        makeAll(model, state);
        String name = state.size() + " calls, then " + call;
        long want = Given.make(model, call);
        c.due(name, Given.make(ours, call), want);
        c.due("digest() behind " + name, ours.digest(), model.digest());
        // rising, book and digest may answer such numbers without refusing.
        boolean mayLookRefused = call.startsWith("rising") || call.startsWith("book") || call.startsWith("digest");
        if (want <= REFUSED && !mayLookRefused) {
            c.same("what is told behind refused " + name, Told.of(ours), toldBefore);
        }
    }
}
