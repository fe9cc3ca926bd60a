/** What "Terms" says of limits, first values, the empty and the full: a test for each sentence, with its words. */
public final class EdgesOfTermsTest {
    private static final int NONE = -1, UNKNOWN = -101, OUTSIDE = -102, STATE = -103, FULL = -104;
    private static final int[] ACROSS = {10, 9, 5, 0, -5, -9, -10, -9, -5, 0, 5, 9};
    private static final int[] ALONG = {0, 5, 9, 10, 9, 5, 0, -5, -9, -10, -9, -5};
    // Beside the first ones outside: numbers that wrap to something inside when they are multiplied.
    private static final int[] NO_PLACES = {-1, 12, 1 << 28, 1 << 29, 1 << 30, -1 << 30, Integer.MIN_VALUE, Integer.MAX_VALUE};
    private static final int[] NO_LEGS = {-1, 4, 1 << 30, Integer.MIN_VALUE, Integer.MAX_VALUE};
    private static final Check c = new Check("EdgesOfTermsTest");
    private static final Given none = Given.nothing(c);

    public static void main(String[] args) {
        places();
        noPlaces();
        twoNumbersEach();
        numbersOfPlaces();
        placeOrNone();
        horseWeighs();
        riderWeighs();
        shake();
        shakeAtMostShakingSquared();
        risingAtMostLift();
        shaking();
        lift();
        blocked();
        sizeOfGroup();
        eachOnAnother();
        risingNotLookedAt();
        waysOfGroup();
        coatsAtMost();
        colours();
        legs();
        marks();
        swapping();
        fewestSwaps();
        sampleFromAbove();
        fairsAtMost();
        days();
        secondDay();
        earned();
        roadDays();
        roadAtFirst();
        roadBothWays();
        beginsBehindTheEnd();
        beginsBehindTheRoad();
        bestRoundOfNone();
        bestRoundEarnsMost();
        bestRoundFewestFairs();
        bestRoundLeastNumbers();
        hours();
        hoursAtFirst();
        runningBeyond();
        turnTakesAll();
        turnTakesATenth();
        turnTakesTokens();
        childrenCome();
        turnLetsNobodyIn();
        bookAgrees();
        firstAsTold();
        c.finish();
    }

    private static Given twelve() {
        Given run = none;
        for (int p = 0; p < 12; p++) {
            run = run.then("horse " + p + " 100 " + p);
        }
        return run;
    }

    private static void places() {
        c.sentence("THE RING has PLACES 0 to 11");
        for (int p : new int[] {0, 11}) {
            none.answers("horse " + p + " 10 5", 1);
            Given two = none.then("horse " + p + " 10 5", "horse 5 20 6");
            two.answers("leave " + p, 10);
            two.answers("rider " + p, 0);
            two.then("sit " + p + " 7").answers("rider " + p, 7).answers("rise " + p, 7);
            two.answers("coat " + p + " 9", 2);
            two.answers("sample " + p + " 0", 5);
            two.answers("strip " + p + " 5", 0);
            two.answers("swap " + p + " 0 5 0", 1);
            two.answers("swap 5 0 " + p + " 0", 1);
            two.answers("mark " + p + " 0", 4 * p);
            two.answers("find " + p + " 0", 4 * p);
        }
        twelve().answers("count 0", 12);
    }

    private static void noPlaces() {
        c.sentence("UNKNOWN: PLACE");
        Given all = twelve().then("sit 0 10", "sit 11 10");
        for (int p : NO_PLACES) {
            none.keeps("horse " + p + " 10 5", UNKNOWN);
            all.keeps("horse " + p + " 10 5", UNKNOWN);
            all.keeps("leave " + p, UNKNOWN);
            all.keeps("sit " + p + " 10", UNKNOWN);
            all.keeps("rise " + p, UNKNOWN);
            all.keeps("rider " + p, UNKNOWN);
            all.keeps("coat " + p + " 9", UNKNOWN);
            all.keeps("sample " + p + " 0", UNKNOWN);
            all.keeps("strip " + p + " 0", UNKNOWN);
            all.keeps("swap " + p + " 0 5 0", UNKNOWN);
            all.keeps("swap 5 0 " + p + " 0", UNKNOWN);
            all.keeps("mark " + p + " 0", UNKNOWN);
            all.keeps("find " + p + " 0", UNKNOWN);
        }
    }

    private static void twoNumbersEach() {
        c.sentence("with two numbers each, in order");
        for (int p = 0; p < 12; p++) {
            none.then("horse " + p + " 1 0").answers("shake", ACROSS[p] * ACROSS[p] + ALONG[p] * ALONG[p]);
        }
    }

    private static void numbersOfPlaces() {
        c.sentence("(10, 0), (9, 5), (5, 9), (0, 10), (-5, 9), (-9, 5), (-10, 0), (-9, -5), (-5, -9), (0, -10), (5, -9), (9, -5)");
        for (int p = 0; p < 12; p++) {
            Given one = none.then("horse " + p + " 1 0");
            // A second LOAD at (10, 0), or at (0, 10), tells each number with its sign.
            int across = p == 0 ? 30 : ACROSS[p] + 20;
            one.then(p == 0 ? "sit 0 2" : "horse 0 2 0").answers("shake", across * across + ALONG[p] * ALONG[p]);
            int along = p == 3 ? 30 : ALONG[p] + 20;
            one.then(p == 3 ? "sit 3 2" : "horse 3 2 0").answers("shake", ACROSS[p] * ACROSS[p] + along * along);
        }
    }

    private static void placeOrNone() {
        c.sentence("A HORSE stands at a PLACE or none");
        Given all = twelve();
        for (int p = 0; p < 12; p++) {
            none.answers("leave " + p, UNKNOWN).then("horse " + p + " 50 5").answers("leave " + p, 50);
            none.then("horse " + p + " 50 5").answers("count 0", 1).keeps("horse " + p + " 60 6", STATE);
            Given left = all.then("leave " + p);
            left.answers("count 0", 11).answers("mark " + p + " 0", UNKNOWN).answers("horse " + p + " 60 6", 12);
        }
    }

    private static void horseWeighs() {
        c.sentence("it WEIGHS 1 to 200");
        for (int weight : new int[] {0, -1, 201, Integer.MIN_VALUE, Integer.MAX_VALUE}) {
            none.keeps("horse 5 " + weight + " 7", OUTSIDE);
        }
        none.answers("horse 5 1 7", 1).then("horse 5 1 7").answers("leave 5", 1).answers("count 6", 1);
        none.answers("horse 5 200 7", 1).then("horse 5 200 7").answers("leave 5", 200).answers("count 6", 200);
    }

    private static void riderWeighs() {
        c.sentence("a RIDER on it 1 to 150");
        Given all = twelve();
        for (int weight : new int[] {0, -1, 151, Integer.MIN_VALUE, Integer.MAX_VALUE}) {
            all.keeps("sit 0 " + weight, OUTSIDE);
            all.keeps("best " + weight, OUTSIDE);
            all.keeps("group 1 " + weight + " 1 1", OUTSIDE);
            all.keeps("group 2 1 " + weight + " 1", OUTSIDE);
            all.keeps("group 3 1 1 " + weight, OUTSIDE);
            all.keeps("come " + weight, OUTSIDE);
        }
        for (int weight : new int[] {1, 150}) {
            int shake = 100 * weight * weight;
            all.answers("sit 0 " + weight, shake).then("sit 0 " + weight).answers("rise 0", weight);
            all.answers("best " + weight, 0);
            all.answers("group 1 " + weight + " 1 1", shake);
            all.answers("come " + weight, 1).then("come " + weight, "next").answers("rider 0", weight);
            Given of3 = all.then("group 3 " + weight + " " + weight + " " + weight);
            of3.answers("count 1", 3).answers("count 6", 1200 + 3 * weight);
        }
    }

    private static void shake() {
        c.sentence("SHAKE of a set of LOADS (what HORSES and RIDERS WEIGH): the sum of squares of both sums of LOADS"
            + " times the PLACES' numbers");
        none.answers("shake", 0);
        twelve().answers("shake", 0);
        Given half = none.then("law 0 30000");
        for (int p = 0; p < 6; p++) {
            half = half.then("horse " + p + " 200 0");
        }
        half.answers("shake", 2000 * 2000 + 7600 * 7600);
        for (int p = 0; p < 6; p++) {
            half = half.then("sit " + p + " 150");
        }
        half.answers("shake", 3500 * 3500 + 13300 * 13300);
        // A RIDER is a LOAD as a HORSE is; who waits is none.
        none.then("horse 0 15 0").answers("shake", 150 * 150);
        none.then("horse 0 10 0", "sit 0 5").answers("shake", 150 * 150).then("come 150").answers("shake", 150 * 150);
    }

    private static void shakeAtMostShakingSquared() {
        c.sentence("THE RING MAY TURN, if SHAKE is at most SHAKING squared");
        none.then("law 0 0").answers("may", 1);
        none.then("law 0 0", "horse 0 1 0", "horse 6 1 0").answers("may", 1);
        none.then("law 0 0", "horse 0 1 0").answers("may", 0);
        none.then("horse 0 20 0", "law 0 200").answers("may", 1);
        none.then("horse 0 20 0", "law 0 199").answers("may", 0);
        // (13, 1): one more than 13 squared.
        Given oneMore = none.then("horse 1 2 0", "horse 8 1 0");
        oneMore.answers("shake", 170);
        oneMore.then("law 0 13").answers("may", 0).answers("turn", STATE);
        oneMore.then("law 0 14").answers("may", 1).answers("turn", 0);
    }

    private static void risingAtMostLift() {
        c.sentence("and RISING: with PLACES modulo 4, LOADS at 0 and 2 less those at 1 and 3, without its sign,"
            + " is at most LIFT");
        for (int p = 0; p < 12; p++) {
            Given one = none.then("horse " + p + " 7 0");
            one.answers("rising", p % 4 == 0 || p % 4 == 2 ? 7 : -7);
            one.then("law 1 7").answers("may", 1).answers("turn", 0);
            one.then("law 1 6").answers("may", 0).answers("turn", STATE);
            one.then("law 1 0").answers("may", 0);
        }
        none.then("law 1 0").answers("may", 1);
        none.then("law 1 0", "horse 0 9 0", "horse 3 9 0").answers("may", 1);
        Given even = none.then("law 0 30000");
        Given odd = none.then("law 0 30000");
        for (int p = 0; p < 12; p += 2) {
            even = even.then("horse " + p + " 200 0", "sit " + p + " 150");
            odd = odd.then("horse " + (p + 1) + " 200 0", "sit " + (p + 1) + " 150");
        }
        even.answers("rising", 2100).answers("may", 1);
        even.then("law 1 2100").answers("may", 1).then("law 1 2099").answers("may", 0);
        odd.answers("rising", -2100).answers("may", 1);
        odd.then("law 1 2100").answers("may", 1).then("law 1 2099").answers("may", 0);
    }

    private static void shaking() {
        c.sentence("SHAKING 0 to 30000; 3000 at first");
        for (int v : new int[] {-1, 30001, 65536, Integer.MIN_VALUE, Integer.MAX_VALUE}) {
            none.keeps("law 0 " + v, OUTSIDE);
        }
        none.answers("law 0 0", 3000).then("law 0 0").answers("law 0 30000", 0);
        none.answers("law 0 30000", 3000).then("law 0 30000").answers("law 0 3000", 30000);
        Given heavy = none.then("horse 0 200 0");
        heavy.answers("sit 0 100", 3000 * 3000).keeps("sit 0 101", STATE);
    }

    private static void lift() {
        c.sentence("LIFT (0 to 5000; 5000 at first)");
        for (int v : new int[] {-1, 5001, 30000, Integer.MIN_VALUE, Integer.MAX_VALUE}) {
            none.keeps("law 1 " + v, OUTSIDE);
        }
        none.answers("law 1 0", 5000).then("law 1 0").answers("law 1 5000", 0);
        none.answers("law 1 5000", 5000).then("law 1 5000").answers("law 1 4999", 5000);
    }

    private static void blocked() {
        c.sentence("A RIDER is BLOCKED at a HORSE, if THE RING MIGHT not TURN with it");
        // It may turn without the RIDER, but not with it.
        Given still = none.then("horse 0 50 0", "horse 6 50 0", "law 0 100");
        still.answers("may", 1).answers("sit 0 10", 10000).keeps("sit 0 11", STATE);
        still.answers("best 10", 0).keeps("best 11", NONE);
        still.then("come 11").keeps("next", NONE);
        // It may not turn without the RIDER, but with it.
        Given slant = none.then("horse 0 50 0", "horse 6 30 0", "law 0 100");
        slant.answers("may", 0).answers("sit 6 10", 10000).answers("sit 6 30", 10000);
        slant.keeps("sit 6 9", STATE).keeps("sit 6 31", STATE).keeps("sit 0 20", STATE);
        slant.answers("best 10", 6).keeps("best 9", NONE).keeps("best 31", NONE);
        // By LIFT, on both sides.
        Given level = none.then("horse 0 50 0", "horse 3 50 0", "law 1 20");
        level.answers("sit 0 20", 700 * 700 + 500 * 500).keeps("sit 0 21", STATE);
        level.answers("sit 3 20", 700 * 700 + 500 * 500).keeps("sit 3 21", STATE);
        // SHAKE is one more than SHAKING squared.
        Given oneMore = none.then("horse 1 1 0", "horse 8 1 0");
        oneMore.then("law 0 13").keeps("sit 1 1", STATE).then("law 0 14").answers("sit 1 1", 170);
    }

    private static void sizeOfGroup() {
        c.sentence("A GROUP (1 to 3 RIDERS, in order)");
        Given all = twelve();
        for (int n : new int[] {0, -1, 4, Integer.MIN_VALUE, Integer.MAX_VALUE}) {
            all.keeps("group " + n + " 10 10 10", OUTSIDE);
        }
        all.then("group 1 10 20 30").answers("count 1", 1).answers("count 6", 1210);
        all.then("group 2 10 20 30").answers("count 1", 2).answers("count 6", 1230);
        all.then("group 3 10 20 30").answers("count 1", 3).answers("count 6", 1260);
        // Weights of RIDERS that are not of the GROUP are not looked at.
        all.answers("group 1 10 0 151", 10000).answers("group 2 10 10 0", 0).answers("group 2 10 10 151", 0);
    }

    private static void eachOnAnother() {
        c.sentence("is SEATED BEST on HORSES without RIDERS, each on another one");
        // Both would shake least at 6 if they could share it.
        Given run = none.then("horse 0 150 0", "horse 3 100 0", "horse 6 50 0", "horse 9 100 0");
        run.answers("group 2 50 50 0", 500 * 500 + 500 * 500);
        run.then("group 2 50 50 0").answers("rider 3", 50).answers("rider 6", 50).answers("count 1", 2);
        // The best HORSE of all bears a RIDER already.
        Given taken = run.then("sit 6 40");
        taken.answers("group 1 60 0 0", 600 * 600 + 600 * 600);
        taken.then("group 1 60 0 0").answers("rider 6", 40).answers("rider 3", 60);
    }

    private static void risingNotLookedAt() {
        c.sentence("so that SHAKE is least (RISING is not looked at)");
        Given strict = twelve().then("law 1 0", "law 0 0");
        strict.answers("group 2 50 50 0", 0).answers("group 1 150 0 0", 1500 * 1500);
        strict.then("group 2 50 50 0").answers("rising", 100).answers("may", 0);
        // One behind the other they would sit at 0 and 3; together 3 and 9 shake less.
        Given three = none.then("horse 0 1 0", "horse 3 1 0", "horse 9 1 0", "law 1 0");
        three.answers("group 2 50 50 0", 100);
        three.then("group 2 50 50 0").answers("rider 3", 50).answers("rider 9", 50).answers("rising", -101);
        // Places whose numbers are neither alike nor 0: right against the RIDER, not at its mirror image.
        Given slant = none.then("horse 1 9 0", "horse 5 9 0", "horse 7 9 0", "horse 11 9 0", "sit 1 40");
        slant.answers("group 1 40 0 0", 0).then("group 1 40 0 0").answers("rider 7", 40);
        Given other = none.then("horse 2 9 0", "horse 4 9 0", "horse 8 9 0", "horse 10 9 0", "sit 4 40");
        other.answers("group 1 40 0 0", 0).then("group 1 40 0 0").answers("rider 10", 40);
    }

    private static void waysOfGroup() {
        c.sentence("of several ways the one where the first has the least PLACE, then the second, and so on");
        twelve().then("group 1 50 0 0").answers("rider 0", 50);
        twelve().then("group 2 40 50 0").answers("rider 0", 40).answers("rider 6", 50);
        twelve().then("group 2 50 40 0").answers("rider 0", 50).answers("rider 6", 40);
        Given cross = none.then("horse 0 100 0", "horse 3 100 0", "horse 6 100 0", "horse 9 100 0");
        Given second = cross.then("sit 6 50", "group 2 50 10 0");
        second.answers("rider 0", 50).answers("rider 3", 10).answers("rider 9", 0);
        Given third = cross.then("group 3 50 50 10");
        third.answers("rider 0", 50).answers("rider 6", 50).answers("rider 3", 10).answers("rider 9", 0);
        // The last HORSES: the first of the GROUP still has the least PLACE.
        Given last = none.then("horse 5 9 0", "horse 11 9 0", "group 2 20 20 0");
        last.answers("rider 5", 20).answers("rider 11", 20);
    }

    private static void coatsAtMost() {
        c.sentence("A HORSE has COATS (8 at most, the first undermost)");
        Given horse = none.then("horse 11 50 0");
        for (int n = 2; n <= 8; n++) {
            horse.answers("coat 11 " + n, n);
            horse = horse.then("coat 11 " + n);
        }
        horse.keeps("coat 11 9", FULL);
        horse.answers("sample 11 7", 0).answers("sample 11 0", 8).answers("sample 11 6", 2);
        horse.then("strip 11 7").answers("coat 11 50", 8).then("coat 11 50").keeps("coat 11 51", FULL);
    }

    private static void colours() {
        c.sentence("each of a colour 0 to 99");
        Given horse = none.then("horse 3 50 5");
        for (int colour : new int[] {-1, 100, Integer.MIN_VALUE, Integer.MAX_VALUE}) {
            none.keeps("horse 3 50 " + colour, OUTSIDE);
            horse.keeps("coat 3 " + colour, OUTSIDE);
            horse.keeps("strip 3 " + colour, OUTSIDE);
        }
        for (int colour : new int[] {0, 99}) {
            none.answers("horse 3 50 " + colour, 1).then("horse 3 50 " + colour).answers("sample 3 0", colour);
            horse.answers("coat 3 " + colour, 2).then("coat 3 " + colour).answers("sample 3 0", colour);
            horse.then("coat 3 " + colour, "coat 3 7").answers("strip 3 " + colour, 1);
        }
    }

    private static void legs() {
        c.sentence("and LEGS 0 to 3");
        Given all = twelve();
        for (int leg : NO_LEGS) {
            for (int p : new int[] {0, 5, 11}) {
                all.keeps("mark " + p + " " + leg, UNKNOWN);
                all.keeps("find " + p + " " + leg, UNKNOWN);
                all.keeps("swap " + p + " " + leg + " 7 0", UNKNOWN);
                all.keeps("swap 7 0 " + p + " " + leg, UNKNOWN);
            }
        }
        for (int leg : new int[] {0, 3}) {
            all.answers("mark 5 " + leg, 20 + leg);
            all.answers("find 5 " + leg, 20 + leg);
            all.answers("swap 5 " + leg + " 7 1", 1).then("swap 5 " + leg + " 7 1").answers("mark 7 1", 20 + leg);
            all.answers("swap 7 1 5 " + leg, 1).then("swap 7 1 5 " + leg).answers("mark 5 " + leg, 29);
        }
    }

    private static void marks() {
        c.sentence("each with a MARK: the HORSE (PLACE) and LEG it was carved for, 4 PLACE and LEG; at first its own");
        Given all = twelve();
        for (int at = 0; at < 48; at++) {
            all.answers("mark " + at / 4 + " " + at % 4, at);
        }
    }

    private static void swapping() {
        c.sentence("SWAPPING exchanges two LEGS of HORSES");
        // The MARK goes with its LEG; all other LEGS, and all that is no LEG, stay where they were.
        Given before = twelve().then("coat 2 50", "sit 2 40", "sit 8 40");
        Given swapped = before.then("swap 2 1 8 3");
        for (int at = 0; at < 48; at++) {
            int mark = at == 9 ? 35 : at == 35 ? 9 : at;
            swapped.answers("mark " + at / 4 + " " + at % 4, mark).answers("find " + at / 4 + " " + at % 4, mark);
        }
        swapped.answers("sample 2 0", 50).answers("sample 8 0", 8).answers("rider 2", 40).answers("rider 8", 40);
        swapped.answers("shake", 0).answers("count 6", 1280).answers("count 0", 12);
        // Once more, they are back; with a third LEG, each moves on.
        swapped.then("swap 8 3 2 1").answers("mark 2 1", 9).answers("mark 8 3", 35);
        swapped.then("swap 2 1 0 0").answers("mark 2 1", 0).answers("mark 0 0", 35).answers("mark 8 3", 9);
    }

    private static void fewestSwaps() {
        c.sentence("THE FEWEST SWAPS: with how few all LEGS of all HORSES are where they were carved for");
        none.answers("swaps", 0);
        Given all = twelve();
        all.answers("swaps", 0);
        Given pairs = all;
        Given ring = all;
        for (int at = 0; at < 24; at++) {
            pairs = pairs.then("swap " + at / 4 + " " + at % 4 + " " + (at + 24) / 4 + " " + at % 4);
        }
        for (int at = 1; at < 48; at++) {
            ring = ring.then("swap 0 0 " + at / 4 + " " + at % 4);
        }
        pairs.answers("swaps", 24);
        ring.answers("swaps", 47);
    }

    private static void sampleFromAbove() {
        c.sentence("A SAMPLE at depth k of a HORSE: the colour of its k-th COAT from above (k 0 the uppermost)");
        Given one = none.then("horse 4 50 30");
        one.answers("sample 4 0", 30).keeps("sample 4 1", NONE).keeps("sample 4 -1", NONE);
        Given three = one.then("coat 4 31", "coat 4 32");
        three.answers("sample 4 0", 32).answers("sample 4 1", 31).answers("sample 4 2", 30).keeps("sample 4 3", NONE);
    }

    private static void fairsAtMost() {
        c.sentence("FAIRS (8 at most, numbered as they come)");
        Given run = none;
        for (int f = 0; f < 8; f++) {
            run.answers("fair 10 20 30", f).answers("count 3", f);
            run = run.then("fair 10 20 30");
        }
        run.answers("count 3", 8).keeps("fair 10 20 30", FULL);
    }

    private static void days() {
        c.sentence("from a day to a day (0 to 400");
        for (int day : new int[] {-1, 401, Integer.MIN_VALUE, Integer.MAX_VALUE}) {
            none.keeps("fair " + day + " 400 5", OUTSIDE);
            none.keeps("fair 0 " + day + " 5", OUTSIDE);
            none.keeps("fair " + day + " " + day + " 5", OUTSIDE);
        }
        none.answers("fair 0 0 5", 0).answers("fair 0 400 5", 0).answers("fair 400 400 5", 0);
    }

    private static void secondDay() {
        c.sentence("the second not below the first");
        none.keeps("fair 1 0 5", OUTSIDE).keeps("fair 400 399 5", OUTSIDE).keeps("fair 400 0 5", OUTSIDE);
        none.answers("fair 1 1 5", 0).answers("fair 399 400 5", 0);
    }

    private static void earned() {
        c.sentence("so much earned (0 to 10000)");
        for (int gain : new int[] {-1, 10001, Integer.MIN_VALUE, Integer.MAX_VALUE}) {
            none.keeps("fair 1 2 " + gain, OUTSIDE);
        }
        none.answers("fair 1 2 0", 0).then("fair 1 2 0").answers("earns", 0);
        none.answers("fair 1 2 10000", 0).then("fair 1 2 10000").answers("earns", 10000);
        Given eight = none;
        for (int f = 0; f < 8; f++) {
            eight = eight.then("fair " + 50 * f + " " + 50 * f + " 10000");
        }
        eight.answers("earns", 80000);
    }

    private static void roadDays() {
        c.sentence("ROADS between FAIRS take 0 to 50 days");
        Given two = none.then("fair 1 2 3", "fair 4 5 6");
        for (int d : new int[] {-1, 51, Integer.MIN_VALUE, Integer.MAX_VALUE}) {
            two.keeps("road 0 1 " + d, OUTSIDE);
        }
        two.answers("road 0 1 50", 0).then("road 0 1 50").answers("road 0 1 0", 50);
        two.then("road 0 1 50", "road 0 1 0").answers("road 0 1 9", 0);
    }

    private static void roadAtFirst() {
        c.sentence("take 0 to 50 days (0 at first");
        Given run = none.times(8, "fair 1 2 3");
        for (int a = 0; a < 8; a++) {
            for (int b = 0; b < 8; b++) {
                if (a != b) {
                    run.answers("road " + a + " " + b + " 50", 0);
                }
            }
        }
    }

    private static void roadBothWays() {
        c.sentence("the same both ways");
        Given run = none.times(8, "fair 1 2 3").then("road 0 7 5", "road 6 1 8");
        run.answers("road 7 0 6", 5).answers("road 0 7 6", 5).answers("road 1 6 6", 8).answers("road 6 1 6", 8);
        run.answers("road 0 6 6", 0).answers("road 1 7 6", 0);
        Given later = none.then("fair 10 12 5", "fair 16 18 7");
        later.then("road 0 1 4").answers("earns", 7).then("road 1 0 3").answers("earns", 12);
        Given earlier = none.then("fair 16 18 7", "fair 10 12 5");
        earlier.then("road 0 1 4").answers("earns", 7).then("road 1 0 3").answers("earns", 12);
    }

    private static void beginsBehindTheEnd() {
        c.sentence("A ROUND: FAIRS one behind the other, each beginning behind the end of the one ahead");
        // One within the other, one over the other's end, both on the same days: never both.
        none.then("fair 0 9 2", "fair 3 5 3").answers("earns", 3).answers("round 0", 1).answers("round 1", NONE);
        none.then("fair 0 5 2", "fair 4 9 3").answers("earns", 3).answers("round 0", 1).answers("round 1", NONE);
        none.then("fair 3 5 2", "fair 3 5 3").answers("earns", 3).answers("round 0", 1).answers("round 1", NONE);
        // Just the one ahead counts, whatever its number.
        Given three = none.then("fair 20 29 2", "fair 0 9 3", "fair 10 19 4");
        three.answers("earns", 9).answers("round 0", 1).answers("round 1", 2).answers("round 2", 0);
        three.then("fair 9 10 6").answers("earns", 9).answers("round 0", 1).then("fair 9 10 8").answers("earns", 10);
    }

    private static void beginsBehindTheRoad() {
        c.sentence("and the days of the ROAD between (the day behind the end is the first day on the road, or there)");
        none.then("fair 0 5 1", "fair 5 9 1").answers("earns", 1);
        none.then("fair 0 5 1", "fair 6 9 1").answers("earns", 2);
        none.then("fair 0 5 1", "fair 6 9 1", "road 0 1 1").answers("earns", 1);
        none.then("fair 0 5 1", "fair 7 9 1", "road 0 1 1").answers("earns", 2);
        none.then("fair 0 5 1", "fair 55 60 1", "road 0 1 50").answers("earns", 1);
        none.then("fair 0 5 1", "fair 56 60 1", "road 0 1 50").answers("earns", 2);
        none.then("fair 7 7 1", "fair 7 7 1").answers("earns", 1);
        none.then("fair 0 399 1", "fair 400 400 1").answers("earns", 2);
        none.then("fair 0 400 1", "fair 400 400 1").answers("earns", 1);
        // The ROAD that counts is that between the two, not one by way of a third.
        Given third = none.then("fair 0 0 5", "fair 9 9 1", "fair 20 20 5", "road 0 2 20");
        third.answers("earns", 11).then("road 0 1 9").answers("earns", 6).then("road 0 2 19").answers("earns", 10);
    }

    private static void bestRoundOfNone() {
        c.sentence("THE BEST ROUND (perhaps of none)");
        none.answers("earns", 0).keeps("round 0", NONE);
        Given nothingEarned = none.then("fair 1 2 0", "fair 5 6 0");
        nothingEarned.answers("earns", 0).keeps("round 0", NONE).keeps("round 1", NONE);
        nothingEarned.then("fair 9 9 1").answers("earns", 1).answers("round 0", 2).answers("round 1", NONE);
    }

    private static void bestRoundEarnsMost() {
        c.sentence("the one that earns most");
        Given one = none.then("fair 1 9 10", "fair 1 2 4", "fair 3 4 5");
        one.answers("earns", 10).answers("round 0", 0).answers("round 1", NONE);
        Given two = none.then("fair 1 9 10", "fair 1 2 5", "fair 3 4 6");
        two.answers("earns", 11).answers("round 0", 1).answers("round 1", 2).answers("round 2", NONE);
    }

    private static void bestRoundFewestFairs() {
        c.sentence("of like ones that of fewest FAIRS");
        Given like = none.then("fair 1 2 5", "fair 3 4 6", "fair 1 9 11");
        like.answers("earns", 11).answers("round 0", 2).answers("round 1", NONE);
        Given zero = none.then("fair 1 2 0", "fair 3 4 6", "fair 5 6 0", "fair 7 8 2");
        zero.answers("round 0", 1).answers("round 1", 3).answers("round 2", NONE);
        Given behind = none.then("fair 0 0 3", "fair 1 2 5", "fair 3 4 6", "fair 1 4 11");
        behind.answers("round 0", 0).answers("round 1", 3).answers("round 2", NONE);
    }

    private static void bestRoundLeastNumbers() {
        c.sentence("of like ones the one with the least numbers, from the first on");
        none.then("fair 1 2 5", "fair 1 2 5").answers("round 0", 0).answers("round 1", NONE);
        Given first = none.then("fair 1 1 5", "fair 2 2 5", "fair 1 1 5", "fair 2 2 5");
        first.answers("round 0", 0).answers("round 1", 1).answers("round 2", NONE);
        first.then("road 0 1 1").answers("round 0", 0).answers("round 1", 3);
        first.then("road 0 1 1", "road 0 3 1").answers("round 0", 2).answers("round 1", 1);
        // From the first on: 1, 3 is ahead of 2, 0.
        Given crossed = none.then("fair 2 2 5", "fair 1 1 5", "fair 1 1 5", "fair 2 2 5", "road 0 1 1", "road 2 3 1");
        crossed.answers("round 0", 1).answers("round 1", 3).answers("earns", 10);
    }

    private static void hours() {
        c.sentence("LOOKS: THE RING may run so many HOURS (1 to 1000");
        for (int h : new int[] {0, -1, 1001, Integer.MIN_VALUE, Integer.MAX_VALUE}) {
            none.keeps("hours " + h, OUTSIDE);
        }
        none.then("hours 1").answers("hours 2", 1);
        none.then("hours 1000").answers("hours 2", 1000);
    }

    private static void hoursAtFirst() {
        c.sentence("100 at first) from a LOOK on");
        none.answers("hours 1", 100).answers("hours 1000", 100);
        none.times(300, "turn").answers("turn", 0);
    }

    private static void runningBeyond() {
        c.sentence("RUNNING beyond that is not done");
        Given tenTurns = none.then("hours 1").times(10, "turn");
        tenTurns.answers("count 4", 10).keeps("turn", STATE);
        none.then("hours 1").times(9, "turn").answers("turn", 0);
        tenTurns.then("look").answers("turn", 0);
        tenTurns.then("look").times(10, "turn").keeps("turn", STATE);
        tenTurns.then("hours 2").answers("turn", 0).then("hours 1").keeps("turn", STATE);
        none.then("hours 1000").times(20, "turn").then("hours 2").keeps("turn", STATE);
        none.then("hours 1000").times(20, "turn").then("hours 1").keeps("turn", STATE);
        none.then("hours 1000").times(19, "turn").then("hours 2").answers("turn", 0);
    }

    private static void turnTakesAll() {
        c.sentence("A TURN takes all RIDERS that sit");
        none.answers("turn", 0);
        Given all = twelve();
        all.answers("turn", 0);
        for (int p = 0; p < 12; p++) {
            all = all.then("sit " + p + " " + (10 + p));
        }
        all.answers("count 1", 12).answers("turn", 12);
        Given behind = all.then("turn");
        behind.answers("count 1", 0).answers("count 6", 1200).answers("count 0", 12);
        behind.answers("shake", 0).answers("rising", 0).answers("turn", 0).answers("sit 0 150", 1500 * 1500);
        for (int p = 0; p < 12; p++) {
            behind.answers("rider " + p, 0).answers("rise " + p, STATE);
        }
    }

    private static void turnTakesATenth() {
        c.sentence("and one HOUR by ten (TENTHS)");
        none.then("turn").answers("count 4", 1).answers("look", 1);
        twelve().then("sit 0 5", "sit 6 5", "turn").answers("count 4", 1).answers("look", 1);
    }

    private static void turnTakesTokens() {
        c.sentence("each RIDER gives a TOKEN, and goes");
        Given all = twelve();
        for (int riders = 1; riders <= 12; riders++) {
            all = all.then("sit " + (riders - 1) + " " + riders);
            all.answers("count 5", 0).answers("turn", riders);
            all.then("turn").answers("count 5", riders).answers("count 1", 0).answers("rider " + (riders - 1), 0);
        }
        // Who went has no second TOKEN to give, and does not wait again; who got off before gives none.
        all.then("turn", "turn").answers("count 5", 12).answers("count 2", 0);
        all.then("rise 5").answers("turn", 11);
    }

    private static void childrenCome() {
        c.sentence("THE QUEUE: children come (each WEIGHS)");
        Given three = twelve().then("come 30", "come 150", "come 1");
        three.answers("count 2", 3).answers("count 1", 0).answers("count 6", 1200).answers("shake", 0);
        for (int weight : new int[] {30, 150, 1}) {
            three.then("next").answers("rider 0", weight);
            three = three.then("next", "turn");
        }
        three.answers("count 2", 0).answers("next", NONE);
    }

    private static void turnLetsNobodyIn() {
        c.sentence("a TURN's end lets nobody in by itself");
        Given waiting = twelve().then("come 10", "come 20", "next", "turn");
        waiting.answers("count 1", 0).answers("count 2", 1).answers("next", 0);
    }

    private static void bookAgrees() {
        c.sentence("THE BOOK tells TOKENS counted by hand; it AGREES, if this is what TURNS took since the last count");
        Given three = twelve().then("sit 0 5", "sit 6 5", "turn", "sit 0 5", "turn");
        three.answers("book 3", 0).answers("book 2", 1).answers("book 4", -1);
        three.then("book 3").answers("book 0", 0).answers("count 5", 0);
        three.then("book 1").answers("book 0", 0);
        three.then("book 3", "sit 3 5", "turn").answers("book 1", 0).answers("book 4", -3);
        three.then("look").answers("book 3", 0);
    }

    private static void firstAsTold() {
        c.sentence("Refusals, of several the first as told by each call: UNKNOWN (a number names nothing),"
            + " OUTSIDE (it is not as told), STATE (as told), FULL");
        // UNKNOWN ahead of OUTSIDE, ahead of STATE or FULL, and all of them ahead of NONE.
        Given run = none.then("horse 0 100 0", "sit 0 5").times(7, "coat 0 1").times(8, "fair 1 2 3").times(100, "come 5");
        run.keeps("horse 12 0 100", UNKNOWN).keeps("horse 0 0 0", OUTSIDE).keeps("horse 0 1 100", OUTSIDE);
        run.keeps("horse 0 1 0", STATE);
        run.keeps("sit 1 0", UNKNOWN).keeps("sit 0 0", OUTSIDE).keeps("sit 0 151", OUTSIDE).keeps("sit 0 1", STATE);
        run.keeps("law 2 -1", UNKNOWN).keeps("best 0", OUTSIDE).keeps("best 151", OUTSIDE).keeps("best 1", NONE);
        run.keeps("coat 1 100", UNKNOWN).keeps("coat 0 100", OUTSIDE).keeps("coat 0 99", FULL);
        run.keeps("sample 1 8", UNKNOWN).keeps("strip 1 7", UNKNOWN).keeps("strip 0 7", OUTSIDE);
        run.keeps("swap 0 4 0 4", UNKNOWN).keeps("swap 1 0 1 0", UNKNOWN).keeps("swap 0 0 0 0", OUTSIDE);
        run.keeps("find 1 4", UNKNOWN).keeps("find 1 3", NONE);
        run.keeps("fair 2 1 3", OUTSIDE).keeps("fair 1 2 3", FULL);
        run.keeps("road 8 8 51", UNKNOWN).keeps("road 7 7 51", OUTSIDE).keeps("road 7 7 5", OUTSIDE);
        run.keeps("come 0", OUTSIDE).keeps("come 151", OUTSIDE).keeps("come 150", FULL);
        Given often = none.times(60, "group 1 1 0 0");
        often.keeps("group 0 1 1 1", OUTSIDE).keeps("group 1 151 0 0", OUTSIDE).keeps("group 1 1 0 0", STATE);
        none.keeps("group 0 1 1 1", OUTSIDE).answers("group 1 1 0 0", NONE);
    }
}
