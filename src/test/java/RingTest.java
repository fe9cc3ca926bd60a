/** Promises 1 to 12: the ring, its horses and riders. */
public final class RingTest {
    private static final int NONE = -1, UNKNOWN = -101, OUTSIDE = -102, STATE = -103;
    private static final int[] ACROSS = {10, 9, 5, 0, -5, -9, -10, -9, -5, 0, 5, 9};
    private static final int[] ALONG = {0, 5, 9, 10, 9, 5, 0, -5, -9, -10, -9, -5};
    private static final Check c = new Check("RingTest");

    public static void main(String[] args) {
        promise1NewObject();
        promise2Horse();
        promise3Leave();
        promise4Sit();
        promise4SitBlocked();
        promise5Rise();
        promise6Shake();
        promise7Rising();
        promise8May();
        promise9Law();
        promise10Best();
        promise10BestBlocked();
        promise11Group();
        promise11GroupTies();
        promise11GroupLimit();
        promise12Rider();
        c.finish();
    }

    private static GallopingRing cross(int weight) {
        GallopingRing x = new GallopingRing();
        for (int p = 0; p < 12; p += 3) {
            x.horse(p, weight, p);
        }
        return x;
    }

    private static void promise1NewObject() {
        GallopingRing x = new GallopingRing();
        for (int what = 0; what < 8; what++) {
            c.due("new: count(" + what + ")", x.count(what), 0);
        }
        c.due("new: shake()", x.shake(), 0);
        c.due("new: rising()", x.rising(), 0);
        c.due("new: may()", x.may(), 1);
        c.due("new: earns()", x.earns(), 0);
        c.due("new: swaps()", x.swaps(), 0);
        c.due("new: look()", x.look(), 0);
        c.due("new: next()", x.next(), NONE);
        c.due("new: law(0, 3000)", x.law(0, 3000), 3000);
        c.due("new: law(1, 5000)", x.law(1, 5000), 5000);
        c.due("new: hours(100)", x.hours(100), 100);
        c.due("new: horse(0) is not there", x.leave(0), UNKNOWN);
        c.due("new: fair 0 is not there", x.road(0, 1, 1), UNKNOWN);
    }

    private static void promise2Horse() {
        GallopingRing x = new GallopingRing();
        for (int p = 0; p < 12; p++) {
            c.due("horse(" + p + ")", x.horse(p, 10 + p, p), p + 1);
            c.due("its coat", x.sample(p, 0), p);
            c.due("it has one coat", x.sample(p, 1), NONE);
            for (int leg = 0; leg < 4; leg++) {
                c.due("its leg", x.mark(p, leg), 4 * p + leg);
            }
        }
        GallopingRing y = new GallopingRing();
        c.due("horse(-1, 1, 1)", y.horse(-1, 1, 1), UNKNOWN);
        c.due("horse(12, 1, 1)", y.horse(12, 1, 1), UNKNOWN);
        c.due("horse(12, 0, -1): unknown first", y.horse(12, 0, -1), UNKNOWN);
        c.due("horse(0, 0, 0)", y.horse(0, 0, 0), OUTSIDE);
        c.due("horse(0, 201, 0)", y.horse(0, 201, 0), OUTSIDE);
        c.due("horse(0, 1, -1)", y.horse(0, 1, -1), OUTSIDE);
        c.due("horse(0, 1, 100)", y.horse(0, 1, 100), OUTSIDE);
        c.due("horse(0, 1, 0)", y.horse(0, 1, 0), 1);
        c.due("horse(11, 200, 99)", y.horse(11, 200, 99), 2);
        c.due("horse(0, 1, 0) again", y.horse(0, 1, 0), STATE);
        c.due("horse(0, 0, 0): outside ahead of state", y.horse(0, 0, 0), OUTSIDE);
        c.due("horse(0, 1, 100): outside ahead of state", y.horse(0, 1, 100), OUTSIDE);
        y.law(0, 0);
        y.law(1, 0);
        c.due("horse at a place is not held to the law", y.horse(3, 200, 0), 3);
    }

    private static void promise3Leave() {
        GallopingRing x = new GallopingRing();
        x.horse(4, 77, 5);
        x.horse(7, 33, 6);
        x.coat(4, 8);
        c.due("leave(-1)", x.leave(-1), UNKNOWN);
        c.due("leave(12)", x.leave(12), UNKNOWN);
        c.due("leave(5): no horse", x.leave(5), UNKNOWN);
        x.sit(4, 9);
        c.due("leave(4): a rider sits", x.leave(4), STATE);
        x.rise(4);
        x.swap(4, 3, 7, 0);
        c.due("leave(4): a leg of another", x.leave(4), STATE);
        c.due("leave(7): a leg of another", x.leave(7), STATE);
        x.swap(4, 3, 7, 0);
        x.swap(4, 0, 4, 1);
        c.due("leave(4): its legs changed about", x.leave(4), STATE);
        c.due("horses stay as they were", x.count(0), 2);
        x.swap(4, 1, 4, 2);
        c.due("leave(4): three legs changed about", x.leave(4), STATE);
        x.swap(4, 1, 4, 2);
        x.swap(4, 0, 4, 1);
        x.swap(4, 2, 4, 3);
        c.due("leave(4): its last legs changed about", x.leave(4), STATE);
        x.swap(4, 3, 4, 2);
        c.due("leave(4): all legs are back", x.leave(4), 77);
        c.due("swaps() without them", x.swaps(), 0);
        c.due("find(4, 0) without them", x.find(4, 0), NONE);
        c.due("count(0)", x.count(0), 1);
        c.due("count(6)", x.count(6), 33);
        c.due("shake()", x.shake(), 33 * 33 * 106);
        c.due("rising()", x.rising(), -33);
        c.due("leave(4) again", x.leave(4), UNKNOWN);
        c.due("horse(4, 12, 3) anew", x.horse(4, 12, 3), 2);
        c.due("its coat", x.sample(4, 0), 3);
        c.due("old coats are gone", x.sample(4, 1), NONE);
        c.due("its leg 0", x.mark(4, 0), 16);
        c.due("its leg 1", x.mark(4, 1), 17);
    }

    private static void promise4Sit() {
        GallopingRing x = new GallopingRing();
        x.horse(0, 100, 0);
        x.horse(6, 100, 0);
        c.due("sit(-1, 5)", x.sit(-1, 5), UNKNOWN);
        c.due("sit(12, 0): unknown first", x.sit(12, 0), UNKNOWN);
        c.due("sit(3, 5): no horse", x.sit(3, 5), UNKNOWN);
        c.due("sit(0, 0)", x.sit(0, 0), OUTSIDE);
        c.due("sit(0, 151)", x.sit(0, 151), OUTSIDE);
        c.due("sit(0, 150)", x.sit(0, 150), 1500 * 1500);
        c.due("sit(0, 1): one sits there", x.sit(0, 1), STATE);
        c.due("sit(0, 0): outside ahead of state", x.sit(0, 0), OUTSIDE);
        c.due("sit(6, 1)", x.sit(6, 1), 1490 * 1490);
        c.due("rider(0)", x.rider(0), 150);
        c.due("rider(6)", x.rider(6), 1);
        c.due("count(1)", x.count(1), 2);
        c.due("count(6)", x.count(6), 351);
    }

    private static void promise4SitBlocked() {
        GallopingRing x = new GallopingRing();
        x.horse(0, 100, 0);
        x.horse(6, 50, 0);
        x.law(0, 400);
        c.due("may() at first", x.may(), 0);
        c.due("sit(6, 9): shakes too much with it", x.sit(6, 9), STATE);
        c.due("sit(6, 10): shakes just enough less", x.sit(6, 10), 400 * 400);
        x.law(0, 3000);
        x.law(1, 250);
        c.due("sit(0, 91): rises too much", x.sit(0, 91), STATE);
        c.due("sit(0, 90): rises just as allowed", x.sit(0, 90), 1300 * 1300);
        GallopingRing y = new GallopingRing();
        y.horse(3, 100, 0);
        y.law(1, 120);
        c.due("sit(3, 21): sinks too much", y.sit(3, 21), STATE);
        c.due("sit(3, 20): sinks just as allowed", y.sit(3, 20), 1200 * 1200);
    }

    private static void promise5Rise() {
        GallopingRing x = cross(50);
        x.sit(3, 40);
        c.due("rise(-1)", x.rise(-1), UNKNOWN);
        c.due("rise(12)", x.rise(12), UNKNOWN);
        c.due("rise(1): no horse", x.rise(1), UNKNOWN);
        c.due("rise(0): none sits", x.rise(0), STATE);
        c.due("rise(3)", x.rise(3), 40);
        c.due("rise(3) again", x.rise(3), STATE);
        c.due("shake()", x.shake(), 0);
        c.due("rising()", x.rising(), 0);
        c.due("count(1)", x.count(1), 0);
        x.sit(3, 1);
        x.law(0, 0);
        c.due("rise(3) where the ring may not turn", x.rise(3), 1);
    }

    private static void promise6Shake() {
        for (int p = 0; p < 12; p++) {
            for (int q = 0; q < 12; q++) {
                GallopingRing x = new GallopingRing();
                x.horse(p, 7, 0);
                if (q != p) {
                    x.horse(q, 11, 0);
                } else {
                    x.sit(p, 11);
                }
                int across = 7 * ACROSS[p] + 11 * ACROSS[q];
                int along = 7 * ALONG[p] + 11 * ALONG[q];
                c.due("shake() of " + p + ", " + q, x.shake(), across * across + along * along);
            }
        }
        GallopingRing most = new GallopingRing();
        for (int p = 0; p < 6; p++) {
            most.horse(p, 200, 0);
        }
        most.law(0, 30000);
        for (int p = 0; p < 6; p++) {
            most.sit(p, 150);
        }
        c.due("shake() of one half", most.shake(), 3500 * 3500 + 13300 * 13300);
    }

    private static void promise7Rising() {
        int sum = 0;
        GallopingRing x = new GallopingRing();
        for (int p = 0; p < 12; p++) {
            x.horse(p, 50 + p * p, 0);
            sum += p % 4 == 0 || p % 4 == 2 ? 50 + p * p : -50 - p * p;
            c.due("rising() to " + p, x.rising(), sum);
        }
        x.sit(5, 20);
        c.due("rising() with a rider", x.rising(), sum - 20);
        x.sit(10, 7);
        c.due("rising() with two", x.rising(), sum - 13);
    }

    private static void promise8May() {
        GallopingRing x = new GallopingRing();
        x.horse(0, 100, 0);
        x.law(0, 1000);
        c.due("may(): shake just as allowed", x.may(), 1);
        x.law(0, 999);
        c.due("may(): shake beyond", x.may(), 0);
        x.law(0, 30000);
        x.law(1, 100);
        c.due("may(): rising just as allowed", x.may(), 1);
        x.law(1, 99);
        c.due("may(): rising beyond", x.may(), 0);
        GallopingRing y = new GallopingRing();
        y.horse(1, 100, 0);
        y.law(1, 100);
        c.due("may(): sinking just as allowed", y.may(), 1);
        y.law(1, 99);
        c.due("may(): sinking beyond", y.may(), 0);
    }

    private static void promise9Law() {
        GallopingRing x = new GallopingRing();
        c.due("law(-1, 5)", x.law(-1, 5), UNKNOWN);
        c.due("law(2, -5): unknown first", x.law(2, -5), UNKNOWN);
        c.due("law(0, -1)", x.law(0, -1), OUTSIDE);
        c.due("law(0, 30001)", x.law(0, 30001), OUTSIDE);
        c.due("law(1, -1)", x.law(1, -1), OUTSIDE);
        c.due("law(1, 5001)", x.law(1, 5001), OUTSIDE);
        c.due("law(0, 30000)", x.law(0, 30000), 3000);
        c.due("law(0, 0)", x.law(0, 0), 30000);
        c.due("law(0, 1)", x.law(0, 1), 0);
        c.due("law(1, 0)", x.law(1, 0), 5000);
        c.due("law(1, 5000)", x.law(1, 5000), 0);
    }

    private static void promise10Best() {
        GallopingRing x = new GallopingRing();
        c.due("best(1): no horse", x.best(1), NONE);
        c.due("best(0)", x.best(0), OUTSIDE);
        c.due("best(151)", x.best(151), OUTSIDE);
        x = cross(100);
        c.due("best(150)", x.best(150), 0);
        c.due("best(50): of like ones the least", x.best(50), 0);
        x.sit(0, 50);
        c.due("best(50): against it", x.best(50), 6);
        c.due("best() seats nobody", x.count(1), 1);
        x.sit(6, 50);
        c.due("best(50): two are free", x.best(50), 3);
        x.sit(3, 50);
        x.sit(9, 50);
        c.due("best(50): none is free", x.best(50), NONE);
    }

    private static void promise10BestBlocked() {
        GallopingRing x = cross(100);
        x.law(0, 500);
        c.due("best(50): shake just as allowed", x.best(50), 0);
        c.due("best(51): all are blocked", x.best(51), NONE);
        x.law(0, 3000);
        x.law(1, 49);
        c.due("best(49)", x.best(49), 0);
        c.due("best(50): rises too much anywhere", x.best(50), NONE);
        GallopingRing y = cross(100);
        y.sit(3, 30);
        y.law(1, 50);
        c.due("best(20): against the rider", y.best(20), 9);
        y.law(1, 49);
        c.due("best(20): there it would sink too much", y.best(20), 0);
        y.law(0, 360);
        c.due("best(20): and elsewhere shake too much", y.best(20), NONE);
        c.due("best(19)", y.best(19), 9);
    }

    private static void promise11Group() {
        GallopingRing x = cross(100);
        c.due("group(0, 1, 1, 1)", x.group(0, 1, 1, 1), OUTSIDE);
        c.due("group(4, 1, 1, 1)", x.group(4, 1, 1, 1), OUTSIDE);
        c.due("group(1, 0, 1, 1)", x.group(1, 0, 1, 1), OUTSIDE);
        c.due("group(1, 151, 1, 1)", x.group(1, 151, 1, 1), OUTSIDE);
        c.due("group(2, 1, 0, 1)", x.group(2, 1, 0, 1), OUTSIDE);
        c.due("group(3, 1, 1, 0)", x.group(3, 1, 1, 0), OUTSIDE);
        c.due("group(3, 1, 1, 151)", x.group(3, 1, 1, 151), OUTSIDE);
        c.due("refused ones were not done", x.count(7), 0);
        x.law(0, 0);
        x.law(1, 0);
        c.due("group(1, 150, 0, -1): the others and the law are not looked at", x.group(1, 150, 0, -1), 1500 * 1500);
        c.due("rider(0)", x.rider(0), 150);
        c.due("group(2, 30, 140, 999)", x.group(2, 30, 140, 999), 100 * 100 + 300 * 300);
        c.due("rider(3)", x.rider(3), 30);
        c.due("rider(6)", x.rider(6), 140);
        c.due("count(1)", x.count(1), 3);
        c.due("group(2, 1, 1, 1): one horse is free", x.group(2, 1, 1, 1), NONE);
        c.due("nobody was seated", x.count(1), 3);
        c.due("count(7): none was done too", x.count(7), 3);
    }

    private static void promise11GroupTies() {
        GallopingRing x = cross(100);
        c.due("group(2, 50, 50, 0)", x.group(2, 50, 50, 0), 0);
        c.due("rider(0)", x.rider(0), 50);
        c.due("rider(6)", x.rider(6), 50);
        c.due("group(1, 30, 0, 0): it shakes more than the last", x.group(1, 30, 0, 0), 300 * 300);
        c.due("rider(3)", x.rider(3), 30);
        GallopingRing slant = new GallopingRing();
        for (int p : new int[] {1, 5, 7, 11}) {
            slant.horse(p, 50, 0);
        }
        slant.sit(1, 40);
        c.due("group(1, 40, 0, 0) right against it", slant.group(1, 40, 0, 0), 0);
        c.due("rider(7)", slant.rider(7), 40);
        GallopingRing y = cross(100);
        c.due("group(3, 40, 10, 40)", y.group(3, 40, 10, 40), 100 * 100);
        c.due("rider(0) is the first", y.rider(0), 40);
        c.due("rider(3) is the second", y.rider(3), 10);
        c.due("rider(6) is the third", y.rider(6), 40);
        GallopingRing z = new GallopingRing();
        z.horse(3, 50, 0);
        z.horse(9, 50, 0);
        c.due("group(2, 20, 30, 0)", z.group(2, 20, 30, 0), 100 * 100);
        c.due("rider(3) is the first", z.rider(3), 20);
        c.due("group(1, 9, 0, 0) on a full ring", z.group(1, 9, 0, 0), NONE);
        GallopingRing none = new GallopingRing();
        c.due("group(1, 9, 0, 0) without horses", none.group(1, 9, 0, 0), NONE);
        c.due("count(7): it was done", none.count(7), 1);
    }

    private static void promise11GroupLimit() {
        GallopingRing x = cross(100);
        for (int i = 0; i < 60; i++) {
            c.due("group(1, 10, 0, 0)", x.group(1, 10, 0, 0), 100 * 100);
            x.rise(0);
        }
        c.due("count(7)", x.count(7), 60);
        c.due("group(1, 10, 0, 0) once more", x.group(1, 10, 0, 0), STATE);
        c.due("group(1, 0, 0, 0): outside ahead of state", x.group(1, 0, 0, 0), OUTSIDE);
        for (int p = 0; p < 12; p += 3) {
            x.sit(p, 10);
        }
        c.due("group(1, 10, 0, 0) on a full ring: refused", x.group(1, 10, 0, 0), STATE);
        c.due("count(7) stays", x.count(7), 60);
        GallopingRing empty = new GallopingRing();
        for (int i = 0; i < 60; i++) {
            c.due("group(2, 1, 1, 0) without horses", empty.group(2, 1, 1, 0), NONE);
        }
        c.due("group(2, 1, 1, 0) a 61st time", empty.group(2, 1, 1, 0), STATE);
        c.due("count(7) of an empty ring", empty.count(7), 60);
    }

    private static void promise12Rider() {
        GallopingRing x = cross(100);
        x.sit(9, 44);
        c.due("rider(-1)", x.rider(-1), UNKNOWN);
        c.due("rider(12)", x.rider(12), UNKNOWN);
        c.due("rider(9)", x.rider(9), 44);
        c.due("rider(0): none", x.rider(0), 0);
        c.due("rider(11): no horse", x.rider(11), 0);
    }
}
