/** Promises 13 to 19: coats and legs. */
public final class CoatsAndLegsTest {
    private static final int NONE = -1, UNKNOWN = -101, OUTSIDE = -102, FULL = -104;
    private static final Check c = new Check("CoatsAndLegsTest");

    public static void main(String[] args) {
        promise13Coat();
        promise14Sample();
        promise15Strip();
        promise16Swap();
        promise17Mark();
        promise18Swaps();
        promise18SwapsOfAll();
        promise19Find();
        c.finish();
    }

    private static void promise13Coat() {
        GallopingRing x = new GallopingRing();
        x.horse(2, 50, 7);
        x.horse(3, 50, 8);
        c.due("coat(-1, 0)", x.coat(-1, 0), UNKNOWN);
        c.due("coat(12, 100): unknown first", x.coat(12, 100), UNKNOWN);
        c.due("coat(1, 0): no horse", x.coat(1, 0), UNKNOWN);
        c.due("coat(2, -1)", x.coat(2, -1), OUTSIDE);
        c.due("coat(2, 100)", x.coat(2, 100), OUTSIDE);
        for (int n = 2; n <= 8; n++) {
            c.due("coat(2, " + n + ")", x.coat(2, n == 8 ? 99 : n - 2), n);
        }
        c.due("coat(2, 5): full", x.coat(2, 5), FULL);
        c.due("coat(2, 100): outside ahead of full", x.coat(2, 100), OUTSIDE);
        c.due("sample(2, 0)", x.sample(2, 0), 99);
        c.due("sample(2, 7)", x.sample(2, 7), 7);
        c.due("sample(3, 0): the next horse's", x.sample(3, 0), 8);
        c.due("coat(3, 1)", x.coat(3, 1), 2);
    }

    private static void promise14Sample() {
        GallopingRing x = new GallopingRing();
        x.horse(11, 50, 7);
        x.coat(11, 8);
        x.coat(11, 9);
        c.due("sample(-1, 0)", x.sample(-1, 0), UNKNOWN);
        c.due("sample(12, 0)", x.sample(12, 0), UNKNOWN);
        c.due("sample(10, 0): no horse", x.sample(10, 0), UNKNOWN);
        c.due("sample(10, -1): unknown first", x.sample(10, -1), UNKNOWN);
        c.due("sample(11, 0)", x.sample(11, 0), 9);
        c.due("sample(11, 1)", x.sample(11, 1), 8);
        c.due("sample(11, 2)", x.sample(11, 2), 7);
        c.due("sample(11, 3)", x.sample(11, 3), NONE);
        c.due("sample(11, -1)", x.sample(11, -1), NONE);
        c.due("sample(11, most)", x.sample(11, Integer.MAX_VALUE), NONE);
        c.due("sample(11, least)", x.sample(11, Integer.MIN_VALUE), NONE);
    }

    private static void promise15Strip() {
        GallopingRing x = new GallopingRing();
        int[] later = {6, 5, 4, 5, 3};
        x.horse(0, 50, 5);
        for (int colour : later) {
            x.coat(0, colour);
        }
        c.due("strip(-1, 5)", x.strip(-1, 5), UNKNOWN);
        c.due("strip(12, 5)", x.strip(12, 5), UNKNOWN);
        c.due("strip(1, 5): no horse", x.strip(1, 5), UNKNOWN);
        c.due("strip(0, 9): none of it", x.strip(0, 9), OUTSIDE);
        c.due("strip(0, -1)", x.strip(0, -1), OUTSIDE);
        c.due("strip(0, 100)", x.strip(0, 100), OUTSIDE);
        c.due("strip(0, 3): uppermost", x.strip(0, 3), 0);
        c.due("strip(0, 5): the nearest", x.strip(0, 5), 1);
        c.due("sample(0, 1) below", x.sample(0, 1), 4);
        c.due("strip(0, 3): it went", x.strip(0, 3), OUTSIDE);
        c.due("strip(0, 6)", x.strip(0, 6), 3);
        c.due("coat(0, 0) on two", x.coat(0, 0), 3);
        c.due("strip(0, 5): undermost", x.strip(0, 5), 2);
        c.due("sample(0, 1): it is the last", x.sample(0, 1), NONE);
    }

    private static void promise16Swap() {
        GallopingRing x = new GallopingRing();
        x.horse(2, 50, 0);
        x.horse(11, 50, 0);
        c.due("swap(-1, 0, 2, 0)", x.swap(-1, 0, 2, 0), UNKNOWN);
        c.due("swap(12, 0, 2, 0)", x.swap(12, 0, 2, 0), UNKNOWN);
        c.due("swap(2, 0, -1, 0)", x.swap(2, 0, -1, 0), UNKNOWN);
        c.due("swap(2, 0, 12, 0)", x.swap(2, 0, 12, 0), UNKNOWN);
        c.due("swap(2, -1, 11, 0)", x.swap(2, -1, 11, 0), UNKNOWN);
        c.due("swap(2, 4, 11, 0)", x.swap(2, 4, 11, 0), UNKNOWN);
        c.due("swap(2, 0, 11, -1)", x.swap(2, 0, 11, -1), UNKNOWN);
        c.due("swap(2, 0, 11, 4)", x.swap(2, 0, 11, 4), UNKNOWN);
        c.due("swap(1, 0, 2, 0): no horse", x.swap(1, 0, 2, 0), UNKNOWN);
        c.due("swap(2, 0, 1, 0): no horse", x.swap(2, 0, 1, 0), UNKNOWN);
        c.due("swap(1, 0, 1, 0): unknown first", x.swap(1, 0, 1, 0), UNKNOWN);
        c.due("swap(2, 3, 2, 3): the same", x.swap(2, 3, 2, 3), OUTSIDE);
        c.due("swap(2, 1, 11, 3)", x.swap(2, 1, 11, 3), 1);
        c.due("mark(2, 1)", x.mark(2, 1), 47);
        c.due("mark(11, 3)", x.mark(11, 3), 9);
        c.due("swap(2, 1, 2, 0): of one horse", x.swap(2, 1, 2, 0), 1);
        c.due("mark(2, 0)", x.mark(2, 0), 47);
        c.due("mark(2, 1) then", x.mark(2, 1), 8);
        x.sit(2, 10);
        c.due("swap(2, 0, 11, 3) below a rider", x.swap(2, 0, 11, 3), 1);
        c.due("mark(11, 3) then", x.mark(11, 3), 47);
        c.due("swap(2, 3, 11, 3): the same leg of two", x.swap(2, 3, 11, 3), 1);
    }

    private static void promise17Mark() {
        GallopingRing x = new GallopingRing();
        x.horse(0, 50, 0);
        x.horse(11, 50, 0);
        c.due("mark(-1, 0)", x.mark(-1, 0), UNKNOWN);
        c.due("mark(12, 0)", x.mark(12, 0), UNKNOWN);
        c.due("mark(5, 0): no horse", x.mark(5, 0), UNKNOWN);
        c.due("mark(0, -1)", x.mark(0, -1), UNKNOWN);
        c.due("mark(0, 4)", x.mark(0, 4), UNKNOWN);
        c.due("mark(0, 0)", x.mark(0, 0), 0);
        c.due("mark(11, 3)", x.mark(11, 3), 47);
    }

    private static void promise18Swaps() {
        GallopingRing x = new GallopingRing();
        x.horse(0, 50, 0);
        x.horse(5, 50, 0);
        x.horse(9, 50, 0);
        c.due("swaps() at first", x.swaps(), 0);
        x.swap(0, 0, 5, 0);
        c.due("swaps() of two", x.swaps(), 1);
        x.swap(5, 0, 9, 0);
        c.due("swaps() of three in a ring", x.swaps(), 2);
        x.swap(9, 3, 9, 2);
        c.due("swaps() of one horse's too", x.swaps(), 3);
        x.swap(0, 0, 9, 0);
        c.due("swaps() where one went right", x.swaps(), 2);
        x.swap(9, 3, 9, 2);
        c.due("swaps() where one horse's are right", x.swaps(), 1);
        x.swap(5, 0, 9, 0);
        c.due("swaps() where all are right", x.swaps(), 0);
    }

    private static void promise18SwapsOfAll() {
        GallopingRing x = new GallopingRing();
        for (int p = 0; p < 12; p++) {
            x.horse(p, 50, 0);
        }
        for (int at = 1; at < 48; at++) {
            x.swap(0, 0, at / 4, at % 4);
            c.due("swaps() of " + (at + 1) + " legs in a ring", x.swaps(), at);
        }
        x.swap(0, 0, 6, 0);
        c.due("swaps() where the ring fell in two", x.swaps(), 46);
        x.swap(0, 0, 6, 0);
        c.due("swaps() where it is one again", x.swaps(), 47);
    }

    private static void promise19Find() {
        GallopingRing x = new GallopingRing();
        x.horse(3, 50, 0);
        x.horse(8, 50, 0);
        c.due("find(-1, 0)", x.find(-1, 0), UNKNOWN);
        c.due("find(12, 0)", x.find(12, 0), UNKNOWN);
        c.due("find(3, -1)", x.find(3, -1), UNKNOWN);
        c.due("find(3, 4)", x.find(3, 4), UNKNOWN);
        c.due("find(5, 4): no horse, no leg", x.find(5, 4), UNKNOWN);
        c.due("find(5, 0): no horse", x.find(5, 0), NONE);
        c.due("find(3, 2)", x.find(3, 2), 14);
        x.swap(3, 2, 8, 1);
        x.swap(8, 1, 8, 3);
        c.due("find(3, 2) then", x.find(3, 2), 35);
        c.due("find(8, 1)", x.find(8, 1), 14);
        c.due("find(8, 3)", x.find(8, 3), 33);
    }
}
