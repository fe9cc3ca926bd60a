/** Promises 1 to 12: a test for each sentence that names an edge or a refusal, with its words. */
public final class EdgesOfRingTest {
    private static final int NONE = -1, UNKNOWN = -101, OUTSIDE = -102, STATE = -103;
    private static final Check c = new Check("EdgesOfRingTest");
    private static final Given none = Given.nothing(c);
    private static final Given cross = none.then("horse 0 100 0", "horse 3 100 1", "horse 6 100 2", "horse 9 100 3");

    public static void main(String[] args) {
        promise1();
        promise2();
        promise2Refusals();
        promise3();
        promise3Refusals();
        promise4();
        promise4Refusals();
        promise5();
        promise6();
        promise7();
        promise8();
        promise9();
        promise10();
        promise10Blocked();
        promise10Refusals();
        promise11();
        promise11TooFew();
        promise11Refusals();
        promise11SixtyTimes();
        promise12();
        c.finish();
    }

    private static void promise1() {
        c.sentence("No HORSES, FAIRS");
        for (int p = 0; p < 12; p++) {
            none.answers("leave " + p, UNKNOWN).answers("rider " + p, 0).answers("mark " + p + " 0", UNKNOWN);
            none.answers("find " + p + " 0", NONE);
        }
        none.answers("count 0", 0).answers("count 1", 0).answers("count 6", 0).answers("count 3", 0);
        none.answers("earns", 0).answers("round 0", NONE).answers("fair 1 2 3", 0);
        none.answers("count 2", 0).answers("next", NONE).answers("count 5", 0).answers("count 7", 0);
        c.sentence("a LOOK was just done");
        none.answers("count 4", 0).answers("look", 0);
        none.then("hours 1").times(9, "turn").answers("turn", 0).then("turn").answers("turn", STATE);
    }

    private static void promise2() {
        c.sentence("A HORSE comes to a PLACE, with one COAT of a colour, LEGS of its own: how many HORSES");
        Given run = none;
        for (int p = 11; p >= 0; p--) {
            run.answers("horse " + p + " 20 " + (30 + p), 12 - p);
            run = run.then("horse " + p + " 20 " + (30 + p));
        }
        run.answers("count 0", 12).answers("count 1", 0).answers("swaps", 0);
        for (int p = 0; p < 12; p++) {
            run.answers("sample " + p + " 0", 30 + p).answers("sample " + p + " 1", NONE).answers("rider " + p, 0);
            for (int leg = 0; leg < 4; leg++) {
                run.answers("mark " + p + " " + leg, 4 * p + leg);
            }
        }
        // No law holds a HORSE back, and the count falls as one leaves.
        none.then("law 0 0", "law 1 0").answers("horse 5 200 0", 1);
        cross.then("leave 3").answers("horse 3 1 1", 4).answers("horse 4 1 1", 4);
    }

    private static void promise2Refusals() {
        c.sentence("UNKNOWN; OUTSIDE: weight, colour; STATE: one is there");
        for (String p : new String[] {"-1 ", "12 "}) {
            cross.keeps("horse " + p + "1 0", UNKNOWN);
            cross.keeps("horse " + p + "0 0", UNKNOWN).keeps("horse " + p + "201 100", UNKNOWN);
            cross.keeps("horse " + p + "1 -1", UNKNOWN);
        }
        cross.keeps("horse 1 0 0", OUTSIDE).keeps("horse 1 201 0", OUTSIDE);
        cross.keeps("horse 1 1 -1", OUTSIDE).keeps("horse 1 1 100", OUTSIDE).keeps("horse 1 0 100", OUTSIDE);
        cross.keeps("horse 0 0 0", OUTSIDE).keeps("horse 0 201 0", OUTSIDE);
        cross.keeps("horse 0 1 -1", OUTSIDE).keeps("horse 0 1 100", OUTSIDE);
        cross.keeps("horse 0 1 0", STATE).keeps("horse 9 200 99", STATE).keeps("horse 0 100 0", STATE);
        cross.then("sit 0 5").keeps("horse 0 1 0", STATE);
    }

    private static void promise3() {
        c.sentence("The HORSE of a PLACE is left off (its LEGS, COATS are gone): what it WEIGHED");
        Given run = none.then("horse 4 77 5", "coat 4 6", "coat 4 7", "horse 7 33 8");
        run.answers("leave 4", 77).answers("leave 7", 33);
        Given left = run.then("leave 4");
        left.answers("count 0", 1).answers("count 6", 33).answers("shake", 33 * 33 * 106).answers("rising", -33);
        left.answers("mark 4 0", UNKNOWN).answers("find 4 0", NONE).answers("find 4 3", NONE).answers("swaps", 0);
        left.answers("sample 4 0", UNKNOWN).answers("swap 4 0 7 0", UNKNOWN).answers("mark 7 0", 28);
        Given anew = left.then("horse 4 12 9");
        anew.answers("count 0", 2).answers("sample 4 0", 9).answers("sample 4 1", NONE).answers("coat 4 1", 2);
        anew.answers("strip 4 5", OUTSIDE).answers("mark 4 0", 16).answers("mark 4 3", 19).answers("leave 4", 12);
        // The last one leaves an empty ring, which no law holds.
        left.then("leave 7").answers("count 0", 0).answers("shake", 0).answers("rising", 0).answers("count 6", 0);
        cross.then("law 0 0").answers("leave 0", 100).then("leave 0").answers("may", 0);
    }

    private static void promise3Refusals() {
        c.sentence("UNKNOWN: also without a HORSE; STATE: a RIDER sits, or one of its LEGS is not its own");
        cross.keeps("leave -1", UNKNOWN).keeps("leave 12", UNKNOWN).keeps("leave 1", UNKNOWN).keeps("leave 11", UNKNOWN);
        none.keeps("leave 0", UNKNOWN);
        cross.then("leave 0").keeps("leave 0", UNKNOWN);
        cross.then("sit 0 1").keeps("leave 0", STATE).answers("leave 3", 100).then("rise 0").answers("leave 0", 100);
        cross.then("sit 0 1", "turn").answers("leave 0", 100);
        Given painted = cross.then("coat 0 50", "coat 0 51", "coat 9 52", "coat 6 53");
        painted.then("sit 0 1").keeps("leave 0", STATE);
        for (int leg = 0; leg < 4; leg++) {
            Given swapped = painted.then("swap 0 " + leg + " 9 " + (3 - leg));
            swapped.keeps("leave 0", STATE).keeps("leave 9", STATE).answers("leave 3", 100);
            swapped.then("sit 0 1").keeps("leave 0", STATE);
            swapped.then("swap 9 " + (3 - leg) + " 0 " + leg).answers("leave 0", 100).answers("leave 9", 100);
            for (int other = 0; other < leg; other++) {
                Given about = painted.then("swap 6 " + leg + " 6 " + other);
                about.keeps("leave 6", STATE).then("swap 6 " + leg + " 6 " + other).answers("leave 6", 100);
            }
        }
    }

    private static void promise4() {
        c.sentence("A RIDER sits down: SHAKE then");
        cross.answers("sit 0 1", 100).answers("sit 3 150", 1500 * 1500);
        cross.then("sit 0 40").answers("sit 6 40", 0).answers("sit 3 30", 400 * 400 + 300 * 300);
        cross.then("sit 0 40").answers("rider 0", 40).answers("count 1", 1).answers("count 6", 440).answers("shake", 160000);
        Given all = cross.then("sit 0 9", "sit 3 9", "sit 6 9", "sit 9 9");
        all.answers("count 1", 4).answers("shake", 0).answers("best 1", NONE);
    }

    private static void promise4Refusals() {
        c.sentence("UNKNOWN: also without a HORSE; OUTSIDE; STATE: one sits there, or it would be BLOCKED");
        cross.keeps("sit -1 5", UNKNOWN).keeps("sit 12 5", UNKNOWN).keeps("sit 1 5", UNKNOWN).keeps("sit 11 5", UNKNOWN);
        cross.keeps("sit 12 0", UNKNOWN).keeps("sit 1 0", UNKNOWN).keeps("sit 1 151", UNKNOWN);
        cross.then("law 0 0").keeps("sit 1 5", UNKNOWN).keeps("sit -1 5", UNKNOWN);
        cross.keeps("sit 0 0", OUTSIDE).keeps("sit 0 151", OUTSIDE);
        Given taken = cross.then("sit 0 40");
        taken.keeps("sit 0 0", OUTSIDE).keeps("sit 0 151", OUTSIDE);
        taken.keeps("sit 0 1", STATE).keeps("sit 0 40", STATE).keeps("sit 0 150", STATE);
        Given strict = cross.then("law 0 400");
        strict.answers("sit 3 40", 160000).keeps("sit 3 41", STATE).keeps("sit 3 151", OUTSIDE).keeps("sit 3 0", OUTSIDE);
        Given level = cross.then("law 1 40");
        level.answers("sit 0 40", 160000).keeps("sit 0 41", STATE);
        level.answers("sit 9 40", 160000).keeps("sit 9 41", STATE);
        taken.then("rise 0").answers("sit 0 1", 100);
        taken.then("turn").answers("sit 0 1", 100);
    }

    private static void promise5() {
        c.sentence("The RIDER gets off: what it WEIGHED");
        cross.then("sit 3 1").answers("rise 3", 1);
        Given run = cross.then("sit 3 150");
        run.answers("rise 3", 150);
        Given off = run.then("rise 3");
        off.answers("rider 3", 0).answers("count 1", 0).answers("count 6", 400).answers("shake", 0).answers("rising", 0);
        off.answers("count 5", 0).answers("count 2", 0).answers("count 0", 4);
        // It gets off, also where the ring may not turn without it.
        Given slant = none.then("horse 0 50 0", "horse 6 30 0", "law 0 100", "sit 6 20");
        slant.answers("rise 6", 20).then("rise 6").answers("may", 0);
        c.sentence("UNKNOWN; STATE: none sits");
        run.keeps("rise -1", UNKNOWN).keeps("rise 12", UNKNOWN).keeps("rise 1", UNKNOWN);
        run.keeps("rise 0", STATE);
        off.keeps("rise 3", STATE);
        run.then("turn").keeps("rise 3", STATE);
    }

    private static void promise6() {
        c.sentence("SHAKE now");
        none.keeps("shake", 0);
        none.then("horse 0 1 0").keeps("shake", 100);
        cross.keeps("shake", 0).then("leave 0").keeps("shake", 1000 * 1000);
        cross.then("sit 3 7").keeps("shake", 4900).then("turn").keeps("shake", 0);
        // It is told where it is beyond the law, too.
        none.then("law 0 0", "horse 1 200 0").keeps("shake", 1800 * 1800 + 1000 * 1000);
    }

    private static void promise7() {
        c.sentence("RISING now: LOADS at 0 and 2 less those at 1 and 3");
        none.keeps("rising", 0);
        cross.keeps("rising", 0).then("leave 0").keeps("rising", -100).then("leave 3").keeps("rising", 0);
        cross.then("sit 0 9").keeps("rising", 9).then("sit 9 5").keeps("rising", 4).then("turn").keeps("rising", 0);
        // Below zero it may look like a refusal, and is none.
        for (int weight = 101; weight <= 104; weight++) {
            none.then("horse 3 " + weight + " 0").keeps("rising", -weight);
        }
        none.then("horse 7 1 0").keeps("rising", -1);
    }

    private static void promise8() {
        c.sentence("Whether THE RING MAY TURN: 1, 0");
        none.keeps("may", 1);
        none.then("horse 0 200 0").keeps("may", 1);
        none.then("horse 0 200 0", "horse 1 200 0").keeps("may", 0);
        // 3000 squared at first: (3000, 0) and a little more.
        none.then("horse 0 200 0", "sit 0 100").keeps("may", 1).then("horse 3 1 0").keeps("may", 0);
        none.then("hours 1").times(10, "turn").keeps("may", 1);
    }

    private static void promise9() {
        c.sentence("SHAKING (which 0), LIFT (1) becomes v: what it was");
        none.answers("law 0 1", 3000).then("law 0 1").answers("law 0 2", 1).answers("law 1 2", 5000);
        none.answers("law 1 1", 5000).then("law 1 1").answers("law 1 2", 1).answers("law 0 2", 3000);
        none.keeps("law 0 3000", 3000).keeps("law 1 5000", 5000);
        // RIDERS that would be blocked by the new law stay.
        Given sitting = cross.then("sit 0 40");
        sitting.answers("law 0 0", 3000).then("law 0 0").answers("rider 0", 40).answers("may", 0).answers("turn", STATE);
        c.sentence("UNKNOWN: which; OUTSIDE");
        for (int which : new int[] {-1, 2, Integer.MIN_VALUE, Integer.MAX_VALUE}) {
            none.keeps("law " + which + " 100", UNKNOWN).keeps("law " + which + " -1", UNKNOWN);
            none.keeps("law " + which + " 30001", UNKNOWN);
        }
        none.keeps("law 0 -1", OUTSIDE).keeps("law 0 30001", OUTSIDE).answers("law 0 0", 3000).answers("law 0 30000", 3000);
        none.keeps("law 1 -1", OUTSIDE).keeps("law 1 5001", OUTSIDE).answers("law 1 0", 5000).answers("law 1 5000", 5000);
    }

    private static void promise10() {
        c.sentence("with least SHAKE, of like ones the least PLACE; NONE");
        cross.keeps("best 1", 0).keeps("best 150", 0);
        cross.then("leave 0", "leave 6").keeps("best 10", 3);
        cross.then("sit 0 10").keeps("best 10", 6).keeps("best 150", 6);
        cross.then("sit 3 10").keeps("best 10", 9);
        cross.then("sit 0 10", "sit 6 10").keeps("best 10", 3);
        none.then("horse 11 9 0").keeps("best 10", 11);
        none.keeps("best 1", NONE);
        cross.then("sit 0 9", "sit 3 9", "sit 6 9", "sit 9 9").keeps("best 1", NONE);
        cross.then("sit 0 9", "sit 3 9", "sit 6 9").keeps("best 9", 9);
    }

    private static void promise10Blocked() {
        c.sentence("The free HORSE on which a RIDER of a weight would not be BLOCKED");
        cross.then("law 0 500").keeps("best 50", 0).keeps("best 51", NONE);
        cross.then("law 1 50").keeps("best 50", 0).keeps("best 51", NONE);
        // Where it would shake least it is blocked by LIFT: the next one that is not.
        Given sunk = cross.then("sit 3 30", "law 1 50");
        sunk.keeps("best 20", 9).keeps("best 21", 0);
        sunk.then("law 0 300").keeps("best 20", 9).keeps("best 21", NONE);
        // The ring may not turn now, but with the RIDER.
        Given slant = none.then("horse 0 50 0", "horse 3 9 0", "horse 6 30 0", "horse 9 9 0", "law 0 0");
        slant.keeps("best 20", 6).keeps("best 19", NONE).keeps("best 21", NONE);
        // A LIFT of 0: only where it makes RISING 0, and of these where it shakes least.
        Given sinking = cross.then("sit 3 30", "sit 6 10", "law 1 0");
        sinking.keeps("best 20", 0).keeps("best 19", NONE).keeps("best 21", NONE);
        Given choice = none.then("horse 0 40 0", "horse 3 90 0", "horse 6 30 0", "law 1 0");
        choice.keeps("best 20", 6).keeps("best 19", NONE).keeps("best 21", NONE);
    }

    private static void promise10Refusals() {
        c.sentence("OUTSIDE");
        for (int weight : new int[] {0, 151, -1, Integer.MIN_VALUE, Integer.MAX_VALUE}) {
            cross.keeps("best " + weight, OUTSIDE);
            none.keeps("best " + weight, OUTSIDE);
        }
    }

    private static void promise11() {
        c.sentence("A GROUP of n (1 to 3) of weights a, b, c is SEATED BEST: what SHAKE is then");
        cross.answers("group 1 10 0 0", 10000).answers("group 2 10 10 0", 0).answers("group 3 10 10 10", 10000);
        cross.then("group 3 40 10 40").answers("rider 0", 40).answers("rider 3", 10).answers("rider 6", 40);
        cross.then("group 3 40 10 40").answers("shake", 10000).answers("count 6", 490).answers("count 7", 1);
        // Exactly as many HORSES are free as sit down.
        cross.then("sit 9 10").answers("group 3 10 10 10", 0).then("group 3 10 10 10").answers("best 1", NONE);
        none.then("horse 7 50 0").answers("group 1 10 0 0", 60 * 60 * 106);
        // The law is not looked at, and the next GROUP is seated beside the first.
        cross.then("law 0 0", "law 1 0").answers("group 1 150 0 0", 1500 * 1500);
        cross.then("group 1 50 0 0").answers("group 1 50 0 0", 0).then("group 1 50 0 0").answers("rider 6", 50);
    }

    private static void promise11TooFew() {
        c.sentence("NONE: too few HORSES are free");
        none.answers("group 1 10 0 0", NONE).answers("group 2 10 10 0", NONE).answers("group 3 10 10 10", NONE);
        Given one = none.then("horse 2 50 0");
        one.answers("group 1 10 0 0", 60 * 60 * 106).answers("group 2 10 10 0", NONE).answers("group 3 1 1 1", NONE);
        Given two = one.then("horse 8 50 0");
        two.answers("group 2 10 10 0", 0).answers("group 3 10 10 10", NONE);
        Given ridden = cross.then("sit 0 5", "sit 6 5");
        ridden.answers("group 2 10 10 0", 0).answers("group 3 10 10 10", NONE);
        ridden.then("group 3 10 10 10").answers("count 1", 2).answers("shake", 0).answers("count 7", 1).answers("count 6", 410);
        ridden.then("sit 3 5").answers("group 2 1 1 0", NONE).answers("group 1 5 0 0", 0);
        ridden.then("sit 3 5", "sit 9 5").answers("group 1 1 0 0", NONE);
    }

    private static void promise11Refusals() {
        c.sentence("OUTSIDE; STATE: it was done 60 times");
        for (String group : new String[] {"0 1 1 1", "4 1 1 1", "1 0 1 1", "1 151 1 1", "2 1 0 1", "2 1 151 1", "2 0 1 1",
            "2 151 1 1", "3 1 1 0", "3 1 1 151", "3 1 0 1", "3 1 151 1", "3 0 1 1", "3 151 1 1"}) {
            cross.keeps("group " + group, OUTSIDE);
            none.keeps("group " + group, OUTSIDE);
            none.times(60, "group 1 1 0 0").keeps("group " + group, OUTSIDE);
            cross.times(60, "group 1 1 0 0").then("turn").keeps("group " + group, OUTSIDE);
        }
    }

    private static void promise11SixtyTimes() {
        c.sentence("STATE: it was done 60 times");
        Given often = cross.times(59, "group 1 10 0 0", "rise 0");
        often.answers("group 1 10 0 0", 10000).answers("count 7", 59);
        often.then("group 1 10 0 0", "rise 0").answers("count 7", 60).keeps("group 1 10 0 0", STATE);
        often.then("group 1 10 0 0", "rise 0").keeps("group 3 10 10 10", STATE);
        // One that found too few HORSES was done, a refused one was not.
        none.times(59, "group 3 1 1 1").answers("group 3 1 1 1", NONE).answers("count 7", 59);
        none.times(60, "group 3 1 1 1").answers("count 7", 60).keeps("group 3 1 1 1", STATE);
        none.times(60, "group 3 1 1 1").then("horse 0 50 0").keeps("group 1 10 0 0", STATE);
        none.times(100, "group 4 1 1 1", "group 1 0 1 1").answers("group 1 1 0 0", NONE).answers("count 7", 0);
        none.times(70, "group 1 1 0 0").answers("count 7", 60);
    }

    private static void promise12() {
        c.sentence("What sits at a PLACE: 0: no RIDER (or no HORSE)");
        cross.keeps("rider 0", 0).keeps("rider 1", 0).keeps("rider 11", 0);
        none.keeps("rider 0", 0);
        cross.then("sit 9 150").keeps("rider 9", 150).keeps("rider 3", 0).then("turn").keeps("rider 9", 0);
        cross.then("sit 9 1").keeps("rider 9", 1).then("rise 9").keeps("rider 9", 0).then("leave 9").keeps("rider 9", 0);
        c.sentence("UNKNOWN: PLACE");
        cross.keeps("rider -1", UNKNOWN).keeps("rider 12", UNKNOWN);
        cross.keeps("rider -2147483648", UNKNOWN).keeps("rider 2147483647", UNKNOWN);
    }
}
