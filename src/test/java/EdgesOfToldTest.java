import java.math.BigInteger;
import java.util.ArrayList;
import java.util.List;

/** Promises 30 and 31, and the 512 calls: a test for each sentence that names an edge or a refusal, with its words. */
public final class EdgesOfToldTest {
    private static final int NONE = -1, UNKNOWN = -101, OUTSIDE = -102, STATE = -103, FULL = -104;
    private static final Check c = new Check("EdgesOfToldTest");
    private static final Given none = Given.nothing(c);

    public static void main(String[] args) {
        promise30Horses();
        promise30Riders();
        promise30Waiting();
        promise30Fairs();
        promise30Tenths();
        promise30Tokens();
        promise30Loads();
        promise30Groups();
        promise30Outside();
        promise31Empty();
        promise31Wrapping();
        promise31Places();
        promise31Marks();
        promise31Law();
        promise31Fairs();
        promise31HoursAndCounts();
        promise31Waiting();
        promise31Full();
        calls512();
        c.finish();
    }

    private static Given twelve() {
        Given run = none;
        for (int p = 0; p < 12; p++) {
            run = run.then("horse " + p + " 100 " + p);
        }
        return run;
    }

    private static void promise30Horses() {
        c.sentence("How many: 0 HORSES");
        none.keeps("count 0", 0).then("horse 11 1 0").keeps("count 0", 1).then("horse 11 1 0", "leave 11").keeps("count 0", 0);
        twelve().keeps("count 0", 12).then("leave 5").keeps("count 0", 11);
        twelve().then("horse 12 1 1", "horse 0 1 1").keeps("count 0", 12);
    }

    private static void promise30Riders() {
        c.sentence("1 RIDERS that sit");
        twelve().keeps("count 1", 0).then("sit 3 1").keeps("count 1", 1).then("rise 3").keeps("count 1", 0);
        Given full = twelve().times(4, "group 3 9 9 9");
        full.keeps("count 1", 12).then("rise 11").keeps("count 1", 11).then("turn").keeps("count 1", 0);
        full.then("group 1 1 0 0", "sit 0 1").keeps("count 1", 12);
    }

    private static void promise30Waiting() {
        c.sentence("2 children that wait");
        none.keeps("count 2", 0).then("come 5").keeps("count 2", 1).then("next").keeps("count 2", 1);
        none.times(99, "come 5").keeps("count 2", 99).then("come 5").keeps("count 2", 100).then("come 5").keeps("count 2", 100);
        twelve().then("come 5", "next").keeps("count 2", 0).then("turn").keeps("count 2", 0);
    }

    private static void promise30Fairs() {
        c.sentence("3 FAIRS");
        none.keeps("count 3", 0).then("fair 1 0 0").keeps("count 3", 0).then("fair 0 0 0").keeps("count 3", 1);
        none.times(8, "fair 0 0 0").keeps("count 3", 8).then("fair 0 0 0").keeps("count 3", 8);
    }

    private static void promise30Tenths() {
        c.sentence("4 TENTHS run since the LOOK");
        none.keeps("count 4", 0).then("turn").keeps("count 4", 1).then("look").keeps("count 4", 0);
        none.then("hours 1").times(10, "turn").keeps("count 4", 10).then("turn").keeps("count 4", 10);
        none.times(3, "turn").then("hours 1", "book 0").keeps("count 4", 3);
        none.then("horse 0 1 0", "law 0 0", "turn").keeps("count 4", 0);
    }

    private static void promise30Tokens() {
        c.sentence("5 TOKENS since the last count");
        Given two = twelve().then("sit 0 1", "sit 6 1", "turn");
        none.keeps("count 5", 0).then("turn").keeps("count 5", 0);
        two.keeps("count 5", 2).then("look").keeps("count 5", 2).then("book 0").keeps("count 5", 0);
        two.then("book 2", "sit 0 1").keeps("count 5", 0).then("turn").keeps("count 5", 1);
        two.then("sit 0 1", "rise 0").keeps("count 5", 2);
        twelve().times(20, "group 3 1 1 1", "group 3 1 1 1", "group 3 1 1 1", "turn").keeps("count 5", 180);
    }

    private static void promise30Loads() {
        c.sentence("6 what all LOADS WEIGH");
        none.keeps("count 6", 0).then("horse 0 1 0").keeps("count 6", 1).then("horse 0 1 0", "sit 0 150").keeps("count 6", 151);
        Given heaviest = none.then("law 0 30000");
        for (int p = 0; p < 12; p++) {
            heaviest = heaviest.then("horse " + p + " 200 0", "sit " + p + " 150");
        }
        heaviest.keeps("count 6", 4200).then("turn").keeps("count 6", 2400);
        heaviest.then("rise 0", "leave 0").keeps("count 6", 3850);
        twelve().then("come 50").keeps("count 6", 1200).then("next").keeps("count 6", 1250);
    }

    private static void promise30Groups() {
        c.sentence("7 how often group() was done");
        none.keeps("count 7", 0).then("group 1 1 0 0").keeps("count 7", 1).then("group 0 1 1 1").keeps("count 7", 1);
        twelve().then("group 3 1 1 1", "turn").keeps("count 7", 1).then("look", "book 3").keeps("count 7", 1);
        none.times(59, "group 2 1 1 0").keeps("count 7", 59).then("group 2 1 1 0").keeps("count 7", 60);
        none.times(61, "group 2 1 1 0").keeps("count 7", 60);
    }

    private static void promise30Outside() {
        c.sentence("7 how often group() was done. OUTSIDE");
        for (int what : new int[] {-1, 8, 9, 1 << 30, -1 << 30, Integer.MIN_VALUE, Integer.MAX_VALUE}) {
            none.keeps("count " + what, OUTSIDE);
            twelve().keeps("count " + what, OUTSIDE);
        }
    }

    /** By numbers without a limit, cut to a long's 64 bits at the very end. */
    private static long digestOf(int... numbers) {
        BigInteger h = BigInteger.valueOf(193);
        for (int number : numbers) {
            h = h.multiply(BigInteger.valueOf(31)).add(BigInteger.valueOf(number));
        }
        return h.longValue();
    }

    private static int[] joined(int[]... parts) {
        List<Integer> all = new ArrayList<>();
        for (int[] part : parts) {
            for (int number : part) {
                all.add(number);
            }
        }
        return all.stream().mapToInt(Integer::intValue).toArray();
    }

    private static int[] numbers(int... some) {
        return some;
    }

    private static int[] zeros(int howMany) {
        return new int[howMany];
    }

    private static final int[] REST_OF_NEW = {3000, 5000, 100, 0, 0, 0};

    private static void promise31Empty() {
        c.sentence("h is 193, then for each of these numbers, in order, 31 times h, and it");
        none.keeps("digest", digestOf(joined(zeros(12), REST_OF_NEW)));
    }

    private static void promise31Wrapping() {
        c.sentence("as longs, wrapping");
        // Without a wrap it would be beyond 193 times 31 to the 18th: some 90 bits; both signs are seen.
        none.keeps("digest", 2726829029727845997L);
        Given one = none.then("horse 0 1 0");
        one.keeps("digest", digestOf(joined(numbers(1, 0, 1, 0, 0, 1, 2, 3), zeros(11), REST_OF_NEW)));
        int below = 0;
        for (int h = 1; h <= 64; h++) {
            long due = digestOf(joined(zeros(12), numbers(h, 5000, 100, 0, 0, 0)));
            none.then("law 0 " + h).keeps("digest", due);
            long queued = digestOf(joined(zeros(12), REST_OF_NEW, numbers(h)));
            none.then("come " + h).keeps("digest", queued);
            below += queued < 0 ? 1 : 0;
        }
        c.holds("some digests are below zero, some not: " + below, below > 0 && below <= 64);
    }

    private static void promise31Places() {
        c.sentence("of each PLACE 0 (no HORSE), or what it WEIGHS, its RIDER, how many COATS, these");
        for (int p = 0; p < 12; p++) {
            int[] legs = {4 * p, 4 * p + 1, 4 * p + 2, 4 * p + 3};
            Given horse = none.then("horse " + p + " 200 99");
            horse.keeps("digest", ofPlace(p, joined(numbers(200, 0, 1, 99), legs)));
            horse.then("sit " + p + " 50").keeps("digest", ofPlace(p, joined(numbers(200, 50, 1, 99), legs)));
            horse.then("coat " + p + " 0").keeps("digest", ofPlace(p, joined(numbers(200, 0, 2, 99, 0), legs)));
            Given full = horse.then("coat " + p + " 1", "coat " + p + " 2").times(5, "coat " + p + " 3");
            full.keeps("digest", ofPlace(p, joined(numbers(200, 0, 8, 99, 1, 2, 3, 3, 3, 3, 3), legs)));
            full.then("strip " + p + " 1").keeps("digest", ofPlace(p, joined(numbers(200, 0, 2, 99, 1), legs)));
            horse.then("leave " + p).keeps("digest", ofPlace(p, numbers(0)));
        }
    }

    private static long ofPlace(int p, int[] told) {
        return digestOf(joined(zeros(p), told, zeros(11 - p), REST_OF_NEW));
    }

    private static void promise31Marks() {
        c.sentence("MARKS of LEGS 0 to 3");
        Given swapped = none.then("horse 0 9 0", "horse 11 9 0", "swap 0 3 11 0", "swap 0 0 0 1");
        int[] due = joined(numbers(9, 0, 1, 0, 1, 0, 2, 44), zeros(10), numbers(9, 0, 1, 0, 3, 45, 46, 47), REST_OF_NEW);
        swapped.keeps("digest", digestOf(due));
    }

    private static void promise31Law() {
        c.sentence("SHAKING, LIFT");
        none.then("law 0 0").keeps("digest", digestOf(joined(zeros(12), numbers(0, 5000, 100, 0, 0, 0))));
        none.then("law 0 30000").keeps("digest", digestOf(joined(zeros(12), numbers(30000, 5000, 100, 0, 0, 0))));
        none.then("law 1 0").keeps("digest", digestOf(joined(zeros(12), numbers(3000, 0, 100, 0, 0, 0))));
        none.then("law 1 4999").keeps("digest", digestOf(joined(zeros(12), numbers(3000, 4999, 100, 0, 0, 0))));
    }

    private static void promise31Fairs() {
        c.sentence("of each FAIR from, to, what it earns, of each FAIR behind it the ROAD");
        int[] law = {3000, 5000};
        int[] rest = {100, 0, 0, 0};
        Given one = none.then("fair 0 400 10000");
        one.keeps("digest", digestOf(joined(zeros(12), law, numbers(0, 400, 10000), rest)));
        none.then("fair 0 0 0").keeps("digest", digestOf(joined(zeros(12), law, zeros(3), rest)));
        Given two = one.then("fair 7 8 9");
        two.keeps("digest", digestOf(joined(zeros(12), law, numbers(0, 400, 10000, 0), numbers(7, 8, 9), rest)));
        Given three = two.then("fair 5 6 0", "road 1 0 50", "road 0 2 3", "road 2 1 4");
        int[] told = joined(numbers(0, 400, 10000, 50, 3), numbers(7, 8, 9, 4), numbers(5, 6, 0));
        three.keeps("digest", digestOf(joined(zeros(12), law, told, rest)));
    }

    private static void promise31HoursAndCounts() {
        c.sentence("HOURS; what count() tells for 4, 5, 7");
        none.then("hours 1").keeps("digest", digestOf(joined(zeros(12), numbers(3000, 5000, 1, 0, 0, 0))));
        none.then("hours 1000").keeps("digest", digestOf(joined(zeros(12), numbers(3000, 5000, 1000, 0, 0, 0))));
        none.times(3, "turn").keeps("digest", digestOf(joined(zeros(12), numbers(3000, 5000, 100, 3, 0, 0))));
        none.then("turn", "look").keeps("digest", digestOf(joined(zeros(12), REST_OF_NEW)));
        none.times(61, "group 1 1 0 0").keeps("digest", digestOf(joined(zeros(12), numbers(3000, 5000, 100, 0, 0, 60))));
        int[] horse = joined(numbers(9, 0, 1, 0, 0, 1, 2, 3), zeros(11));
        Given one = none.then("horse 0 9 0", "sit 0 9", "turn");
        one.keeps("digest", digestOf(joined(horse, numbers(3000, 5000, 100, 1, 1, 0))));
        one.then("book 1").keeps("digest", digestOf(joined(horse, numbers(3000, 5000, 100, 1, 0, 0))));
        one.then("look").keeps("digest", digestOf(joined(horse, numbers(3000, 5000, 100, 0, 1, 0))));
    }

    private static void promise31Waiting() {
        c.sentence("what those who wait WEIGH");
        none.then("come 150").keeps("digest", digestOf(joined(zeros(12), REST_OF_NEW, numbers(150))));
        none.then("come 1", "come 150", "come 7").keeps("digest", digestOf(joined(zeros(12), REST_OF_NEW, numbers(1, 150, 7))));
        Given hundred = none;
        int[] weights = new int[100];
        for (int n = 0; n < 100; n++) {
            weights[n] = 1 + n;
            hundred = hundred.then("come " + (1 + n));
        }
        hundred.keeps("digest", digestOf(joined(zeros(12), REST_OF_NEW, weights)));
        Given sitting = none.then("horse 0 9 0", "come 5", "come 6", "next");
        sitting.keeps("digest", digestOf(joined(numbers(9, 5, 1, 0, 0, 1, 2, 3), zeros(11), REST_OF_NEW, numbers(6))));
    }

    private static void promise31Full() {
        c.sentence("of each PLACE 0 (no HORSE), or what it WEIGHS");
        Given run = none.then("law 0 30000", "law 1 4000", "hours 1000");
        int[] due = {};
        for (int p = 0; p < 12; p++) {
            run = run.then("horse " + p + " " + (189 + p) + " " + p, "sit " + p + " " + (139 + p));
            run = run.times(7, "coat " + p + " " + (88 + p));
            int coat = 88 + p;
            int[] coats = {p, coat, coat, coat, coat, coat, coat, coat};
            due = joined(due, numbers(189 + p, 139 + p, 8), coats, numbers(4 * p, 4 * p + 1, 4 * p + 2, 4 * p + 3));
        }
        due = joined(due, numbers(30000, 4000));
        for (int f = 0; f < 8; f++) {
            run = run.then("fair " + (393 + f) + " 400 " + (9993 + f));
            due = joined(due, numbers(393 + f, 400, 9993 + f), zeros(7 - f));
        }
        due = joined(due, numbers(1000, 0, 0, 0));
        for (int n = 0; n < 100; n++) {
            run = run.then("come " + (150 - n));
            due = joined(due, numbers(150 - n));
        }
        run.keeps("digest", digestOf(due));
        run.keeps("come 1", FULL).keeps("coat 0 1", FULL).keeps("fair 1 1 1", FULL).keeps("next", NONE);
        run.keeps("horse 0 1 1", STATE).keeps("sit 0 1", STATE).keeps("leave 0", STATE).keeps("horse 12 1 1", UNKNOWN);
    }

    private static void calls512() {
        c.sentence("An object is used for at most 512 calls after it has been made");
        none.times(511, "come 5").answersAtLast("come 5", FULL);
        none.times(511, "come 5").answersAtLast("count 2", 100);
        none.times(511, "turn").answersAtLast("turn", 0);
        none.times(511, "turn").answersAtLast("look", 511);
        none.times(511, "group 1 1 0 0").answersAtLast("group 1 1 0 0", STATE);
        none.times(511, "horse 0 9 0").answersAtLast("horse 1 9 0", 2);
        none.then("horse 0 9 0").times(255, "sit 0 5", "turn").answersAtLast("book 0", 255);
        none.then("horse 0 9 0").times(255, "sit 0 5", "rise 0").answersAtLast("count 6", 9);
        none.then("horse 0 9 0").times(255, "leave 0", "horse 0 9 0").answersAtLast("leave 0", 9);
        none.then("horse 0 9 0").times(510, "coat 0 5").answersAtLast("sample 0 7", 0);
        none.then("horse 0 9 0").times(510, "swap 0 1 0 2").answersAtLast("swaps", 0);
        none.times(511, "fair 0 0 5").answersAtLast("earns", 5);
        none.then("horse 0 9 0").times(170, "come 5", "next", "turn").answersAtLast("count 5", 170);
    }
}
