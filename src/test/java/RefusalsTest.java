/** Refused calls change nothing: each is made on an object of its own, and compared with one that was spared it. */
public final class RefusalsTest {
    private static final int NONE = -1, UNKNOWN = -101, OUTSIDE = -102, STATE = -103, FULL = -104;
    private static final int LEAST = Integer.MIN_VALUE, MOST = Integer.MAX_VALUE;
    private static final Check c = new Check("RefusalsTest");

    private interface Call {
        long on(GallopingRing x);
    }

    public static void main(String[] args) {
        c.sentence("they change nothing");
        ring();
        groups();
        coatsAndLegs();
        fairs();
        turns();
        answersOfNone();
        c.finish();
    }

    /** All is at its limits: FAIRS, COATS of horse 0, THE QUEUE, GROUPS, HOURS; 11 has no HORSE, 1 a RIDER. */
    private static GallopingRing full() {
        GallopingRing x = new GallopingRing();
        for (int p = 0; p < 11; p++) {
            x.horse(p, 50 + p, p);
        }
        for (int round = 0; round < 20; round++) {
            x.group(3, 1, 2, 3);
            x.group(3, 1, 2, 3);
            x.group(3, 1, 2, 3);
            x.turn();
        }
        for (int n = 0; n < 7; n++) {
            x.coat(0, 20 + n);
        }
        for (int n = 0; n < 8; n++) {
            x.fair(20 * n, 20 * n + 5, 100 + n);
        }
        for (int n = 0; n < 100; n++) {
            x.come(1 + n);
        }
        x.road(0, 1, 15);
        x.swap(2, 1, 3, 0);
        x.swap(4, 2, 4, 3);
        x.sit(1, 7);
        x.hours(2);
        x.law(1, 4500);
        return x;
    }

    private static void refused(String what, long want, Call call) {
        GallopingRing spared = full();
        GallopingRing x = full();
        c.due(what, call.on(x), want);
        c.same("what is told behind " + what, Told.of(x), Told.of(spared));
    }

    private static void ring() {
        int[] nowhere = {-1, 12, LEAST, MOST};
        for (int p : nowhere) {
            refused("horse(" + p + ")", UNKNOWN, x -> x.horse(p, 1, 1));
            refused("leave(" + p + ")", UNKNOWN, x -> x.leave(p));
            refused("sit(" + p + ")", UNKNOWN, x -> x.sit(p, 1));
            refused("rise(" + p + ")", UNKNOWN, x -> x.rise(p));
            refused("rider(" + p + ")", UNKNOWN, x -> x.rider(p));
            refused("law(" + p + ")", UNKNOWN, x -> x.law(p, 1));
        }
        refused("leave(11)", UNKNOWN, x -> x.leave(11));
        refused("sit(11, 1)", UNKNOWN, x -> x.sit(11, 1));
        refused("rise(11)", UNKNOWN, x -> x.rise(11));
        refused("horse(0, 1, 1)", STATE, x -> x.horse(0, 1, 1));
        refused("horse(11, 0, 1)", OUTSIDE, x -> x.horse(11, 0, 1));
        refused("horse(11, 1, 100)", OUTSIDE, x -> x.horse(11, 1, 100));
        refused("leave(1): a rider", STATE, x -> x.leave(1));
        refused("leave(2): a leg", STATE, x -> x.leave(2));
        refused("leave(3): a leg", STATE, x -> x.leave(3));
        refused("leave(4): its own legs changed about", STATE, x -> x.leave(4));
        refused("sit(1, 5)", STATE, x -> x.sit(1, 5));
        refused("sit(0, 0)", OUTSIDE, x -> x.sit(0, 0));
        refused("sit(0, 151)", OUTSIDE, x -> x.sit(0, 151));
        refused("rise(0)", STATE, x -> x.rise(0));
        refused("law(0, 30001)", OUTSIDE, x -> x.law(0, 30001));
        refused("law(1, 5001)", OUTSIDE, x -> x.law(1, 5001));
        refused("best(0)", OUTSIDE, x -> x.best(0));
    }

    private static void groups() {
        refused("group() a 61st time", STATE, x -> x.group(1, 1, 1, 1));
        refused("group(0)", OUTSIDE, x -> x.group(0, 1, 1, 1));
        refused("group(4)", OUTSIDE, x -> x.group(4, 1, 1, 1));
        refused("group(2, 1, 0, 0)", OUTSIDE, x -> x.group(2, 1, 0, 0));
    }

    private static void coatsAndLegs() {
        refused("coat(0, 1)", FULL, x -> x.coat(0, 1));
        refused("coat(0, -1)", OUTSIDE, x -> x.coat(0, -1));
        refused("coat(11, 1)", UNKNOWN, x -> x.coat(11, 1));
        refused("sample(11, 0)", UNKNOWN, x -> x.sample(11, 0));
        refused("strip(0, 50)", OUTSIDE, x -> x.strip(0, 50));
        refused("strip(11, 0)", UNKNOWN, x -> x.strip(11, 0));
        refused("swap(0, 0, 11, 0)", UNKNOWN, x -> x.swap(0, 0, 11, 0));
        refused("swap(11, 0, 0, 0)", UNKNOWN, x -> x.swap(11, 0, 0, 0));
        refused("swap(0, 4, 1, 0)", UNKNOWN, x -> x.swap(0, 4, 1, 0));
        refused("swap(0, 0, 1, -1)", UNKNOWN, x -> x.swap(0, 0, 1, -1));
        refused("swap(0, 2, 0, 2)", OUTSIDE, x -> x.swap(0, 2, 0, 2));
        refused("mark(11, 0)", UNKNOWN, x -> x.mark(11, 0));
        refused("find(12, 0)", UNKNOWN, x -> x.find(12, 0));
    }

    private static void fairs() {
        refused("fair(1, 2, 3)", FULL, x -> x.fair(1, 2, 3));
        refused("fair(2, 1, 3)", OUTSIDE, x -> x.fair(2, 1, 3));
        refused("road(0, 8, 1)", UNKNOWN, x -> x.road(0, 8, 1));
        refused("road(-1, 0, 1)", UNKNOWN, x -> x.road(-1, 0, 1));
        refused("road(3, 3, 1)", OUTSIDE, x -> x.road(3, 3, 1));
        refused("road(0, 1, 51)", OUTSIDE, x -> x.road(0, 1, 51));
    }

    private static void turns() {
        refused("turn() beyond the hours", STATE, x -> x.turn());
        refused("hours(0)", OUTSIDE, x -> x.hours(0));
        refused("come(0)", OUTSIDE, x -> x.come(0));
        refused("come(5)", FULL, x -> x.come(5));
        refused("book(-1)", OUTSIDE, x -> x.book(-1));
        refused("book(100001)", OUTSIDE, x -> x.book(100001));
        refused("count(8)", OUTSIDE, x -> x.count(8));
    }

    /** Not refusals, but they change nothing either. */
    private static void answersOfNone() {
        refused("find(11, 0)", NONE, x -> x.find(11, 0));
        refused("sample(0, 8)", NONE, x -> x.sample(0, 8));
        refused("round(8)", NONE, x -> x.round(8));
        refused("best(150) where the law is too strict", NONE, x -> {
            int before = x.law(0, 0);
            int answer = x.best(150);
            x.law(0, before);
            return answer;
        });
        refused("next() where the law is too strict", NONE, x -> {
            int before = x.law(0, 0);
            int answer = x.next();
            x.law(0, before);
            return answer;
        });
        refused("turn() where the law is too strict", STATE, x -> {
            int before = x.law(1, 0);
            x.hours(1000);
            int answer = x.turn();
            x.hours(2);
            x.law(1, before);
            return answer;
        });
    }
}
