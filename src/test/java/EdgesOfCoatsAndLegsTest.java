/** Promises 13 to 19: a test for each sentence that names an edge or a refusal, with its words. */
public final class EdgesOfCoatsAndLegsTest {
    private static final int NONE = -1, UNKNOWN = -101, OUTSIDE = -102, FULL = -104;
    private static final Check c = new Check("EdgesOfCoatsAndLegsTest");
    private static final Given none = Given.nothing(c);
    private static final Given pair = none.then("horse 2 50 20", "horse 9 60 30");

    public static void main(String[] args) {
        withoutHorse();
        promise13();
        promise13Refusals();
        promise14();
        promise14Refusals();
        promise15();
        promise15Refusals();
        promise16();
        promise16Refusals();
        promise17();
        promise18();
        promise19();
        promise19Refusals();
        c.finish();
    }

    private static void withoutHorse() {
        c.sentence("UNKNOWN: also without a HORSE");
        for (Given run : new Given[] {pair.then("leave 9"), pair.then("leave 9", "horse 8 1 0", "horse 10 1 0")}) {
            run.keeps("coat 9 5", UNKNOWN);
            run.keeps("sample 9 0", UNKNOWN);
            run.keeps("strip 9 30", UNKNOWN);
            run.keeps("swap 9 0 2 0", UNKNOWN);
            run.keeps("swap 2 0 9 0", UNKNOWN);
            run.keeps("swap 9 0 9 1", UNKNOWN);
            run.keeps("mark 9 0", UNKNOWN);
        }
    }

    private static Given eightCoats() {
        Given run = pair;
        for (int n = 2; n <= 8; n++) {
            run = run.then("coat 2 " + (20 + n));
        }
        return run;
    }

    private static void promise13() {
        c.sentence("One COAT more: how many");
        pair.answers("coat 2 0", 2).answers("coat 9 99", 2);
        pair.then("coat 2 5").answers("coat 2 5", 3).answers("coat 9 5", 2).answers("sample 2 0", 5).answers("sample 2 1", 20);
        pair.times(6, "coat 2 5").answers("coat 2 6", 8).then("coat 2 6").answers("sample 2 0", 6).answers("sample 2 7", 20);
        // Coats of its neighbours are as they were.
        Given three = none.then("horse 1 9 1", "horse 2 9 2", "horse 3 9 3").times(7, "coat 2 50");
        three.answers("sample 1 0", 1).answers("sample 1 1", NONE).answers("sample 3 0", 3).answers("sample 3 1", NONE);
        Given last = none.then("horse 11 9 1").times(7, "coat 11 50");
        last.answers("sample 11 0", 50).answers("sample 11 7", 1).answers("sample 11 8", NONE);
    }

    private static void promise13Refusals() {
        c.sentence("UNKNOWN; OUTSIDE; FULL");
        pair.keeps("coat -1 5", UNKNOWN).keeps("coat 12 5", UNKNOWN).keeps("coat 3 5", UNKNOWN);
        pair.keeps("coat -1 100", UNKNOWN).keeps("coat 12 -1", UNKNOWN).keeps("coat 3 100", UNKNOWN).keeps("coat 3 -1", UNKNOWN);
        pair.keeps("coat 2 -1", OUTSIDE).keeps("coat 2 100", OUTSIDE);
        Given full = eightCoats();
        full.keeps("coat 2 -1", OUTSIDE).keeps("coat 2 100", OUTSIDE);
        full.keeps("coat 2 0", FULL).keeps("coat 2 99", FULL).keeps("coat 2 28", FULL).answers("coat 9 5", 2);
        full.then("strip 2 27").answers("coat 2 5", 8);
        full.then("leave 2", "horse 2 50 5").answers("coat 2 5", 2);
    }

    private static void promise14() {
        c.sentence("A SAMPLE; NONE: there is no such COAT");
        pair.keeps("sample 2 0", 20).keeps("sample 2 1", NONE).keeps("sample 2 -1", NONE);
        Given full = eightCoats();
        for (int k = 0; k < 7; k++) {
            full.keeps("sample 2 " + k, 28 - k);
        }
        full.keeps("sample 2 7", 20).keeps("sample 2 8", NONE).keeps("sample 2 -1", NONE);
        for (int k : new int[] {Integer.MIN_VALUE, Integer.MAX_VALUE, Integer.MIN_VALUE + 7, 1 << 29}) {
            full.keeps("sample 2 " + k, NONE);
        }
        // What was stripped off is no COAT any more.
        full.then("strip 2 22").keeps("sample 2 0", 22).keeps("sample 2 1", 20).keeps("sample 2 2", NONE);
    }

    private static void promise14Refusals() {
        c.sentence("NONE: there is no such COAT. UNKNOWN");
        for (String k : new String[] {" 0", " 1", " -1", " 8"}) {
            pair.keeps("sample -1" + k, UNKNOWN).keeps("sample 12" + k, UNKNOWN).keeps("sample 3" + k, UNKNOWN);
        }
    }

    private static void promise15() {
        c.sentence("COATS are taken off from above, until one of a colour is uppermost: how many went");
        pair.keeps("strip 2 20", 0);
        Given full = eightCoats();
        full.keeps("strip 2 28", 0);
        full.answers("strip 2 27", 1).then("strip 2 27").answers("sample 2 0", 27).answers("sample 2 6", 20).answers("sample 2 7", NONE);
        full.answers("strip 2 20", 7).then("strip 2 20").answers("sample 2 0", 20).answers("sample 2 1", NONE).answers("coat 2 1", 2);
        // The first of that colour from above ends it.
        Given twice = pair.then("coat 2 5", "coat 2 20", "coat 2 6");
        twice.answers("strip 2 20", 1).then("strip 2 20").answers("strip 2 20", 0).answers("sample 2 1", 5).answers("sample 2 2", 20);
        twice.answers("strip 2 5", 2).then("strip 2 5").answers("strip 2 20", 1);
    }

    private static void promise15Refusals() {
        c.sentence("UNKNOWN; OUTSIDE: there is none of that colour");
        for (String colour : new String[] {" 20", " 30", " -1", " 100"}) {
            pair.keeps("strip -1" + colour, UNKNOWN).keeps("strip 12" + colour, UNKNOWN).keeps("strip 3" + colour, UNKNOWN);
        }
        pair.keeps("strip 2 21", OUTSIDE).keeps("strip 2 30", OUTSIDE).keeps("strip 2 0", OUTSIDE).keeps("strip 9 20", OUTSIDE);
        pair.keeps("strip 2 -1", OUTSIDE).keeps("strip 2 100", OUTSIDE);
        Given full = eightCoats();
        full.keeps("strip 2 50", OUTSIDE).then("strip 2 24").keeps("strip 2 25", OUTSIDE).keeps("strip 2 28", OUTSIDE);
        // A COAT of the HORSE that stood there before is none of this one.
        full.then("leave 2", "horse 2 50 9").keeps("strip 2 20", OUTSIDE).keeps("strip 2 22", OUTSIDE);
    }

    private static void promise16() {
        c.sentence("Two LEGS are SWAPPED: 1");
        pair.answers("swap 2 0 9 3", 1).answers("swap 9 3 2 0", 1);
        pair.then("swap 2 0 9 3").answers("mark 2 0", 39).answers("mark 9 3", 8).answers("mark 2 3", 11).answers("mark 9 0", 36);
        pair.answers("swap 2 0 2 3", 1).then("swap 2 0 2 3").answers("mark 2 0", 11).answers("mark 2 3", 8);
        // The same LEG of two HORSES, or two LEGS of one, are not the same.
        pair.answers("swap 2 3 9 3", 1).answers("swap 9 0 9 1", 1);
        pair.then("swap 2 0 9 3", "swap 9 3 2 0").answers("mark 2 0", 8).answers("mark 9 3", 39).answers("swaps", 0);
        pair.then("sit 2 5", "law 0 0").answers("swap 2 0 9 3", 1);
    }

    private static void promise16Refusals() {
        c.sentence("UNKNOWN: a PLACE, a LEG, or no HORSE there; OUTSIDE: they are the same");
        for (String one : new String[] {"-1 0", "12 0", "2 -1", "2 4", "9 -1", "9 4", "3 0", "3 4", "12 4"}) {
            pair.keeps("swap " + one + " 9 3", UNKNOWN).keeps("swap 9 3 " + one, UNKNOWN);
            pair.keeps("swap " + one + " 2 0", UNKNOWN).keeps("swap 2 0 " + one, UNKNOWN);
            pair.keeps("swap " + one + " " + one, UNKNOWN);
        }
        // 4 PLACE and LEG would be the same, PLACE and LEG are not.
        Given neighbours = none.then("horse 2 50 0", "horse 3 50 0");
        neighbours.keeps("swap 2 4 3 0", UNKNOWN).keeps("swap 3 -1 2 3", UNKNOWN);
        for (int leg = 0; leg < 4; leg++) {
            pair.keeps("swap 2 " + leg + " 2 " + leg, OUTSIDE).keeps("swap 9 " + leg + " 9 " + leg, OUTSIDE);
        }
    }

    private static void promise17() {
        c.sentence("MARK of a LEG. UNKNOWN");
        Given ends = none.then("horse 0 50 0", "horse 11 50 0");
        ends.keeps("mark 0 0", 0).keeps("mark 0 3", 3).keeps("mark 11 0", 44).keeps("mark 11 3", 47);
        Given swapped = ends.then("swap 0 0 11 3");
        swapped.keeps("mark 0 0", 47).keeps("mark 11 3", 0);
        for (String leg : new String[] {"-1 0", "12 0", "5 0", "0 -1", "0 4", "11 -1", "11 4", "5 4", "1 -1"}) {
            swapped.keeps("mark " + leg, UNKNOWN);
        }
    }

    private static void promise18() {
        c.sentence("THE FEWEST SWAPS");
        none.keeps("swaps", 0);
        pair.keeps("swaps", 0);
        Given one = pair.then("swap 2 0 9 0");
        one.keeps("swaps", 1);
        one.then("swap 2 0 9 0").keeps("swaps", 0);
        one.then("swap 2 1 9 1").keeps("swaps", 2).then("swap 2 0 9 1").keeps("swaps", 3);
        one.then("swap 9 0 9 1").keeps("swaps", 2).then("swap 9 1 9 2", "swap 9 2 9 3").keeps("swaps", 4);
        // Within one HORSE: two pairs are two SWAPS, a ring of four is three.
        pair.then("swap 2 0 2 1", "swap 2 2 2 3").keeps("swaps", 2).then("swap 2 0 2 2").keeps("swaps", 3);
        one.then("horse 5 9 0", "leave 5").keeps("swaps", 1);
    }

    private static void promise19() {
        c.sentence("Where the LEG is that was carved for PLACE p, leg: 4 PLACE and LEG; NONE: it is not there");
        Given ends = none.then("horse 0 50 0", "horse 11 50 0");
        ends.keeps("find 0 0", 0).keeps("find 0 3", 3).keeps("find 11 0", 44).keeps("find 11 3", 47);
        Given swapped = ends.then("swap 0 0 11 3");
        swapped.keeps("find 0 0", 47).keeps("find 11 3", 0).keeps("find 0 1", 1).keeps("find 11 2", 46);
        // A ring of three: where a LEG is and what stands at its place differ.
        Given three = ends.then("swap 0 0 0 1", "swap 0 1 11 3");
        three.keeps("find 0 0", 47).keeps("find 0 1", 0).keeps("find 11 3", 1);
        three.keeps("mark 0 0", 1).keeps("mark 0 1", 47).keeps("mark 11 3", 0);
        ends.keeps("find 5 0", NONE).keeps("find 5 3", NONE).then("leave 11").keeps("find 11 3", NONE).keeps("find 11 0", NONE);
        none.keeps("find 0 0", NONE).keeps("find 11 3", NONE);
        ends.then("leave 11", "horse 11 50 0").keeps("find 11 3", 47);
    }

    private static void promise19Refusals() {
        c.sentence("UNKNOWN: PLACE, LEG (a HORSE need not be there)");
        for (String leg : new String[] {"-1 0", "12 0", "0 -1", "0 4", "11 -1", "11 4", "5 -1", "5 4", "-1 4", "12 -1", "1 -1"}) {
            none.keeps("find " + leg, UNKNOWN);
            pair.keeps("find " + leg, UNKNOWN);
        }
        for (int at = 0; at < 48; at++) {
            none.answers("find " + at / 4 + " " + at % 4, NONE);
        }
    }
}
