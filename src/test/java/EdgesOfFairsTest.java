/** Promises 20 to 23: a test for each sentence that names an edge or a refusal, with its words. */
public final class EdgesOfFairsTest {
    private static final int NONE = -1, UNKNOWN = -101, OUTSIDE = -102, FULL = -104;
    private static final Check c = new Check("EdgesOfFairsTest");
    private static final Given none = Given.nothing(c);
    private static final Given three = none.then("fair 1 2 3", "fair 10 20 30", "fair 40 50 60");

    public static void main(String[] args) {
        promise20();
        promise20Refusals();
        promise21();
        promise21Refusals();
        promise22();
        promise22NoFairs();
        promise23();
        promise23None();
        oneBehindTheOther();
        c.finish();
    }

    private static Given eight() {
        Given run = none;
        for (int f = 0; f < 8; f++) {
            run = run.then("fair " + 50 * f + " " + 50 * f + " " + (100 + f));
        }
        return run;
    }

    private static void promise20() {
        c.sentence("A FAIR: its number");
        none.answers("fair 0 0 0", 0).answers("fair 400 400 10000", 0).answers("fair 0 400 10000", 0);
        three.answers("fair 5 5 5", 3).answers("fair 1 2 3", 3).answers("count 3", 3);
        three.then("fair 1 2 3").answers("count 3", 4);
        // A refused one takes no number.
        three.then("fair 2 1 3").answers("fair 5 5 5", 3);
    }

    private static void promise20Refusals() {
        c.sentence("OUTSIDE; FULL");
        Given full = eight();
        String[] outside = {"-1 5 5", "0 401 5", "401 401 5", "-1 -1 5", "5 4 5", "400 0 5", "5 6 -1", "5 6 10001", "-1 401 -1"};
        for (String fair : outside) {
            none.keeps("fair " + fair, OUTSIDE);
            three.keeps("fair " + fair, OUTSIDE);
            full.keeps("fair " + fair, OUTSIDE);
        }
        full.keeps("fair 0 0 0", FULL).keeps("fair 400 400 10000", FULL).keeps("fair 5 6 7", FULL);
    }

    private static void promise21() {
        c.sentence("The ROAD between two FAIRS becomes d days: what it was");
        three.answers("road 0 1 7", 0).answers("road 2 1 50", 0).keeps("road 0 2 0", 0);
        Given laid = three.then("road 0 1 7", "road 2 1 50");
        laid.answers("road 0 1 8", 7).answers("road 1 0 8", 7).answers("road 1 2 0", 50).answers("road 0 2 5", 0);
        laid.keeps("road 0 1 7", 7).keeps("road 1 0 7", 7);
        eight().then("road 0 7 9", "road 6 7 8").answers("road 7 6 1", 8).answers("road 7 0 1", 9).answers("road 0 6 1", 0);
        // A FAIR that comes later has ROADS of 0 days to all.
        Given later = laid.then("fair 60 60 1");
        later.answers("road 3 0 1", 0).answers("road 1 3 1", 0).answers("road 2 3 1", 0).answers("road 0 1 1", 7);
    }

    private static void promise21Refusals() {
        c.sentence("UNKNOWN: a, b; OUTSIDE: d, or they are the same");
        for (int f : new int[] {-1, 3, 7, 8, 1 << 29, Integer.MIN_VALUE, Integer.MAX_VALUE}) {
            for (String d : new String[] {" 0", " 5", " -1", " 51"}) {
                three.keeps("road " + f + " 0" + d, UNKNOWN).keeps("road 0 " + f + d, UNKNOWN);
                three.keeps("road " + f + " " + f + d, UNKNOWN);
                none.keeps("road 0 " + f + d, UNKNOWN).keeps("road " + f + " 0" + d, UNKNOWN);
            }
        }
        none.keeps("road 0 0 5", UNKNOWN).keeps("road 0 1 5", UNKNOWN);
        eight().keeps("road 0 8 5", UNKNOWN).keeps("road 8 7 5", UNKNOWN).answers("road 0 7 5", 0);
        three.keeps("road 0 2 -1", OUTSIDE).keeps("road 0 2 51", OUTSIDE);
        for (int f = 0; f < 3; f++) {
            for (String d : new String[] {" 0", " 5", " 50", " -1", " 51"}) {
                three.keeps("road " + f + " " + f + d, OUTSIDE);
            }
        }
        Given laid = three.then("road 0 2 9");
        laid.keeps("road 0 2 51", OUTSIDE).keeps("road 2 0 -1", OUTSIDE).answers("road 0 2 1", 9);
    }

    private static void promise22() {
        c.sentence("What THE BEST ROUND earns");
        three.keeps("earns", 93);
        none.then("fair 1 2 0").keeps("earns", 0).then("fair 1 2 1").keeps("earns", 1);
        none.times(8, "fair 0 400 10000").keeps("earns", 10000);
        eight().keeps("earns", 828);
        // ROADS of 49 days are just short enough, one of 50 leaves a FAIR out.
        Given far = eight();
        for (int f = 1; f < 8; f++) {
            far = far.then("road " + (f - 1) + " " + f + " 49");
        }
        far.keeps("earns", 828).then("road 0 1 50").keeps("earns", 728).then("road 6 7 50").keeps("earns", 622);
    }

    private static void promise22NoFairs() {
        c.sentence("0: there are no FAIRS");
        none.keeps("earns", 0);
        none.then("fair 1 0 5", "horse 0 50 0", "sit 0 5", "turn").keeps("earns", 0);
    }

    private static void promise23() {
        c.sentence("The k-th FAIR of THE BEST ROUND");
        three.keeps("round 0", 0).keeps("round 1", 1).keeps("round 2", 2).keeps("round 3", NONE);
        Given backwards = none.then("fair 40 50 60", "fair 10 20 30", "fair 1 2 3");
        backwards.keeps("round 0", 2).keeps("round 1", 1).keeps("round 2", 0).keeps("round 3", NONE);
        Given leftOut = none.then("fair 10 20 30", "fair 20 30 40", "fair 31 40 1");
        leftOut.keeps("round 0", 1).keeps("round 1", 2).keeps("round 2", NONE);
        // The ROUND follows what comes and what ROADS become.
        leftOut.then("fair 0 19 1").keeps("round 0", 3).keeps("round 1", 1).keeps("round 2", 2);
        leftOut.then("road 1 2 1").keeps("round 0", 1).keeps("round 1", NONE).then("road 2 1 0").keeps("round 1", 2);
    }

    private static void promise23None() {
        c.sentence("NONE");
        for (int k : new int[] {-1, 3, 7, 8, 1 << 30, Integer.MIN_VALUE, Integer.MAX_VALUE}) {
            none.keeps("round " + k, NONE);
            three.keeps("round " + k, NONE);
        }
        none.keeps("round 0", NONE);
        none.then("fair 1 2 0").keeps("round 0", NONE);
        // More FAIRS than the ROUND has.
        none.times(8, "fair 0 400 5").keeps("round 0", 0).keeps("round 1", NONE).keeps("round 7", NONE);
    }

    private static void oneBehindTheOther() {
        c.sentence("FAIRS one behind the other");
        Given all = eight();
        Given backwards = none;
        for (int f = 0; f < 8; f++) {
            all.keeps("round " + f, f);
            backwards = backwards.then("fair " + (400 - 50 * f) + " " + (400 - 50 * f) + " 1");
        }
        for (int k = 0; k < 8; k++) {
            backwards.keeps("round " + k, 7 - k);
        }
        all.keeps("round 8", NONE).keeps("round -1", NONE);
        backwards.keeps("round 8", NONE).keeps("earns", 8);
    }
}
