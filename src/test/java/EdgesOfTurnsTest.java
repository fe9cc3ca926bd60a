/** Promises 24 to 29: a test for each sentence that names an edge or a refusal, with its words. */
public final class EdgesOfTurnsTest {
    private static final int NONE = -1, OUTSIDE = -102, STATE = -103, FULL = -104;
    private static final Check c = new Check("EdgesOfTurnsTest");
    private static final Given none = Given.nothing(c);
    private static final Given pair = none.then("horse 0 100 0", "horse 6 100 0");

    public static void main(String[] args) {
        promise24();
        promise24MayNotTurn();
        promise24BeyondHours();
        promise25();
        promise26();
        promise26Refusals();
        promise27();
        promise27Refusals();
        promise28();
        promise28None();
        promise29();
        promise29Refusals();
        c.finish();
    }

    private static void promise24() {
        c.sentence("A TURN: TOKENS it took");
        none.answers("turn", 0);
        pair.answers("turn", 0).then("sit 6 9").answers("turn", 1).then("sit 0 9").answers("turn", 2);
        Given behind = pair.then("sit 0 20", "sit 6 30", "turn");
        behind.answers("count 1", 0).answers("count 4", 1).answers("count 5", 2).answers("count 6", 200).answers("turn", 0);
        behind.then("turn").answers("count 4", 2).answers("count 5", 2);
        behind.then("sit 0 20", "turn").answers("count 5", 3);
    }

    private static void promise24MayNotTurn() {
        c.sentence("STATE: THE RING MAY not TURN");
        Given sitting = pair.then("sit 0 20");
        sitting.then("law 0 200").answers("turn", 1).then("law 0 199").keeps("turn", STATE).then("law 0 0").keeps("turn", STATE);
        sitting.then("law 1 220").answers("turn", 1).then("law 1 219").keeps("turn", STATE);
        Given odd = none.then("horse 3 100 0", "sit 3 20");
        odd.then("law 1 120").answers("turn", 1).then("law 1 119").keeps("turn", STATE);
        none.then("law 0 0", "law 1 0").answers("turn", 0);
        // Refused until the law is loose again; the RIDER sits on meanwhile.
        sitting.then("law 0 0", "turn").answers("rider 0", 20).then("law 0 3000").answers("turn", 1);
    }

    private static void promise24BeyondHours() {
        c.sentence("or would run beyond its HOURS");
        Given nine = pair.then("hours 1").times(9, "turn").then("sit 0 20");
        nine.answers("turn", 1).then("turn").answers("count 4", 10).keeps("turn", STATE);
        Given ten = nine.then("turn", "sit 0 20");
        ten.keeps("turn", STATE).then("law 0 0").keeps("turn", STATE);
        ten.then("turn").answers("rider 0", 20).answers("count 5", 1).answers("count 4", 10);
        ten.then("look").answers("turn", 1);
        ten.then("hours 2").answers("turn", 1);
        ten.then("book 1").keeps("turn", STATE);
        // 51 HOURS are the most that 512 calls can run.
        none.then("hours 51").times(509, "turn").answers("turn", 0);
        none.then("hours 51").times(510, "turn").answersAtLast("turn", STATE);
        none.then("hours 51").times(510, "turn").answersAtLast("count 4", 510);
    }

    private static void promise25() {
        c.sentence("A LOOK: how many TENTHS of HOURS were run since the last one");
        none.keeps("look", 0);
        none.then("turn").answers("look", 1).then("look").answers("look", 0).answers("count 4", 0);
        none.times(10, "turn").answers("look", 10);
        none.then("hours 1").times(11, "turn").answers("look", 10).then("look", "turn").answers("look", 1);
        // A refused TURN is not run, and a LOOK leaves tokens and riders.
        pair.then("law 1 0", "turn").keeps("look", 0);
        Given run = pair.then("sit 0 9", "turn", "sit 6 9", "look");
        run.answers("count 5", 1).answers("rider 6", 9).answers("hours 5", 100);
    }

    private static void promise26() {
        c.sentence("HOURS from LOOK to LOOK become h: what they were");
        none.answers("hours 1", 100).then("hours 1").answers("hours 1000", 1).then("hours 1000").answers("hours 7", 1000);
        none.keeps("hours 100", 100);
        // They are no LOOK, and may be fewer than were run.
        Given run = none.times(25, "turn");
        run.answers("hours 1", 100).then("hours 1").answers("count 4", 25).answers("look", 25).keeps("turn", STATE);
        run.then("hours 2").keeps("turn", STATE).then("hours 3").answers("turn", 0);
        run.then("hours 1", "look").answers("turn", 0).answers("hours 9", 1);
    }

    private static void promise26Refusals() {
        c.sentence("OUTSIDE");
        for (int h : new int[] {0, -1, 1001, 1 << 30, Integer.MIN_VALUE, Integer.MAX_VALUE}) {
            none.keeps("hours " + h, OUTSIDE);
            none.then("hours 7", "turn").keeps("hours " + h, OUTSIDE);
        }
    }

    private static void promise27() {
        c.sentence("A child of a weight comes behind THE QUEUE: how many wait");
        none.answers("come 1", 1).answers("come 150", 1).then("come 150").answers("come 1", 2);
        Given two = pair.then("come 30", "come 20");
        two.answers("count 2", 2).answers("count 1", 0).answers("count 6", 200);
        two.then("next").answers("rider 0", 30).then("next").answers("rider 6", 20).answers("come 5", 1);
        none.times(99, "come 7").answers("come 8", 100);
    }

    private static void promise27Refusals() {
        c.sentence("OUTSIDE; FULL: 100 wait");
        Given full = pair;
        for (int n = 1; n <= 100; n++) {
            full = full.then("come " + n);
        }
        for (int weight : new int[] {0, -1, 151, Integer.MIN_VALUE, Integer.MAX_VALUE}) {
            none.keeps("come " + weight, OUTSIDE);
            full.keeps("come " + weight, OUTSIDE);
        }
        full.answers("count 2", 100).keeps("come 1", FULL).keeps("come 150", FULL);
        Given again = full.then("next", "come 77");
        full.then("next").answers("come 77", 100).answers("count 2", 99);
        again.keeps("come 1", FULL).then("next", "turn", "next").answers("rider 0", 3);
        // All of them come on in their order, the one behind last.
        Given emptied = again.times(98, "next", "turn");
        emptied.answers("count 2", 2).then("next").answers("rider 0", 100);
        emptied.then("next", "turn", "next").answers("rider 0", 77).answers("count 2", 0).answers("next", NONE);
    }

    private static void promise28() {
        c.sentence("The first of THE QUEUE sits at its best() HORSE: the PLACE");
        Given waiting = pair.then("come 30", "come 20", "come 10");
        waiting.answers("best 30", 0).answers("next", 0);
        Given one = waiting.then("next");
        one.answers("rider 0", 30).answers("count 2", 2).answers("count 1", 1).answers("shake", 300 * 300).answers("next", 6);
        one.then("next").answers("rider 6", 20).answers("count 2", 1).answers("count 6", 250);
        none.then("horse 11 9 0", "come 150").answers("next", 11).then("next").answers("rider 11", 150).answers("count 2", 0);
        // Just as the law allows.
        pair.then("law 0 300", "come 30").answers("next", 0);
        pair.then("law 1 230", "come 30").answers("next", 0);
    }

    private static void promise28None() {
        c.sentence("NONE: nobody waits, or there is none (it waits on)");
        none.keeps("next", NONE);
        pair.keeps("next", NONE);
        pair.then("come 5", "next").keeps("next", NONE);
        none.then("come 5").keeps("next", NONE);
        Given noneFree = pair.then("sit 0 5", "sit 6 5", "come 7", "come 8");
        noneFree.keeps("next", NONE).then("next", "rise 6").answers("next", 6).then("next").answers("rider 6", 7);
        // It is blocked; the one behind it, who might sit, waits too.
        Given strict = pair.then("law 0 299", "come 30", "come 5");
        strict.keeps("next", NONE).then("next", "law 0 300").answers("next", 0).then("next").answers("rider 0", 30);
        pair.then("law 1 229", "come 30").keeps("next", NONE);
    }

    private static void promise29() {
        c.sentence("THE BOOK tells n TOKENS (0 to 100000): what TURNS took since the last count, less that");
        none.keeps("book 0", 0).keeps("book 1", -1).keeps("book 100000", -100000);
        Given two = pair.then("sit 0 5", "sit 6 5", "turn");
        two.answers("book 0", 2).answers("book 2", 0).answers("book 100000", -99998);
        two.then("book 0").answers("count 5", 0).answers("book 0", 0);
        two.then("book 100000").answers("count 5", 0).answers("book 0", 0);
        two.then("book 2", "sit 0 5", "turn").answers("book 0", 1).answers("count 4", 2);
        // An answer that looks like a refusal is none: the count was done.
        for (int n = 101; n <= 104; n++) {
            none.keeps("book " + n, -n);
            two.answers("book " + (n + 2), -n).then("book " + (n + 2)).answers("count 5", 0).answers("book 0", 0);
        }
    }

    private static void promise29Refusals() {
        c.sentence("less that. OUTSIDE");
        Given one = pair.then("sit 0 5", "turn");
        for (int n : new int[] {-1, 100001, Integer.MIN_VALUE, Integer.MAX_VALUE}) {
            none.keeps("book " + n, OUTSIDE);
            one.keeps("book " + n, OUTSIDE).then("book " + n).answers("count 5", 1).answers("book 1", 0);
        }
    }
}
