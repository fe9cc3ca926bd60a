import java.util.ArrayList;
import java.util.List;

/** Promises 30 and 31: count and digest. */
public final class ToldTest {
    private static final int OUTSIDE = -102;
    private static final Check c = new Check("ToldTest");

    public static void main(String[] args) {
        promise30Count();
        promise31DigestOfNew();
        promise31DigestOfAll();
        promise31DigestCountsGroupsOfNone();
        promise31DigestOnlyTells();
        c.finish();
    }

    private static GallopingRing busy() {
        GallopingRing x = new GallopingRing();
        x.horse(0, 100, 11);
        x.horse(6, 90, 12);
        x.horse(11, 80, 13);
        x.coat(6, 14);
        x.coat(6, 15);
        x.swap(0, 3, 11, 2);
        x.sit(0, 10);
        x.sit(6, 20);
        x.turn();
        x.group(2, 30, 40, 0);
        x.turn();
        x.look();
        x.turn();
        x.sit(6, 50);
        x.law(0, 2500);
        x.law(1, 4000);
        x.fair(1, 2, 3);
        x.fair(40, 50, 60);
        x.fair(7, 8, 9);
        x.road(0, 1, 10);
        x.road(2, 0, 20);
        x.road(1, 2, 30);
        x.hours(77);
        x.come(61);
        x.come(62);
        x.come(63);
        x.come(64);
        return x;
    }

    private static void promise30Count() {
        GallopingRing x = busy();
        int[] due = {3, 1, 4, 3, 1, 4, 320, 1};
        for (int what = 0; what < due.length; what++) {
            c.due("count(" + what + ")", x.count(what), due[what]);
        }
        c.due("count(-1)", x.count(-1), OUTSIDE);
        c.due("count(8)", x.count(8), OUTSIDE);
        c.due("count(most)", x.count(Integer.MAX_VALUE), OUTSIDE);
        c.due("count(least)", x.count(Integer.MIN_VALUE), OUTSIDE);
    }

    private static long digestOf(List<Integer> numbers) {
        long h = 193;
        for (int number : numbers) {
            h = 31 * h + number;
        }
        return h;
    }

    private static void add(List<Integer> numbers, int... more) {
        for (int number : more) {
            numbers.add(number);
        }
    }

    private static void promise31DigestOfNew() {
        List<Integer> numbers = new ArrayList<>();
        add(numbers, 0, 0, 0, 0, 0, 0, 0, 0, 0, 0, 0, 0, 3000, 5000, 100, 0, 0, 0);
        c.due("digest() of a new object", new GallopingRing().digest(), digestOf(numbers));
    }

    private static void promise31DigestOfAll() {
        List<Integer> numbers = new ArrayList<>();
        add(numbers, 100, 0, 1, 11, 0, 1, 2, 46);
        add(numbers, 0, 0, 0, 0, 0);
        add(numbers, 90, 50, 3, 12, 14, 15, 24, 25, 26, 27);
        add(numbers, 0, 0, 0, 0);
        add(numbers, 80, 0, 1, 13, 44, 45, 3, 47);
        add(numbers, 2500, 4000);
        add(numbers, 1, 2, 3, 10, 20);
        add(numbers, 40, 50, 60, 30);
        add(numbers, 7, 8, 9);
        add(numbers, 77, 1, 4, 1);
        add(numbers, 61, 62, 63, 64);
        c.due("digest() of a busy object", busy().digest(), digestOf(numbers));
    }

    private static void promise31DigestCountsGroupsOfNone() {
        GallopingRing x = new GallopingRing();
        x.group(1, 1, 0, 0);
        x.group(4, 1, 1, 1);
        x.group(3, 1, 1, 1);
        List<Integer> numbers = new ArrayList<>();
        add(numbers, 0, 0, 0, 0, 0, 0, 0, 0, 0, 0, 0, 0, 3000, 5000, 100, 0, 0, 2);
        c.due("digest() behind two groups of none and a refused one", x.digest(), digestOf(numbers));
    }

    private static void promise31DigestOnlyTells() {
        GallopingRing x = busy();
        String before = Told.of(x);
        x.digest();
        c.same("what is told behind a digest()", Told.of(x), before);
        GallopingRing y = busy();
        y.next();
        c.holds("digest() tells one who went on", y.digest() != x.digest());
    }
}
