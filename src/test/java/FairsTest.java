/** Promises 20 to 23: fairs, roads and the best round. */
public final class FairsTest {
    private static final int NONE = -1, UNKNOWN = -101, OUTSIDE = -102, FULL = -104;
    private static final Check c = new Check("FairsTest");

    public static void main(String[] args) {
        promise20Fair();
        promise21Road();
        promise22Earns();
        promise22RoadDays();
        promise23Round();
        promise23FewestFairs();
        promise23LeastNumbers();
        promise23AllEight();
        c.finish();
    }

    private static void dueRound(String what, GallopingRing x, int... fairs) {
        for (int k = 0; k <= fairs.length; k++) {
            c.due(what + ": round(" + k + ")", x.round(k), k < fairs.length ? fairs[k] : NONE);
        }
    }

    private static void promise20Fair() {
        GallopingRing x = new GallopingRing();
        c.due("fair(-1, 5, 5)", x.fair(-1, 5, 5), OUTSIDE);
        c.due("fair(401, 401, 5)", x.fair(401, 401, 5), OUTSIDE);
        c.due("fair(5, 401, 5)", x.fair(5, 401, 5), OUTSIDE);
        c.due("fair(5, 4, 5)", x.fair(5, 4, 5), OUTSIDE);
        c.due("fair(5, 6, -1)", x.fair(5, 6, -1), OUTSIDE);
        c.due("fair(5, 6, 10001)", x.fair(5, 6, 10001), OUTSIDE);
        c.due("fair(0, 0, 0)", x.fair(0, 0, 0), 0);
        c.due("fair(400, 400, 10000)", x.fair(400, 400, 10000), 1);
        for (int n = 2; n < 8; n++) {
            c.due("fair(0, 400, 1)", x.fair(0, 400, 1), n);
        }
        c.due("count(3)", x.count(3), 8);
        c.due("fair(1, 1, 1): full", x.fair(1, 1, 1), FULL);
        c.due("fair(2, 1, 1): outside ahead of full", x.fair(2, 1, 1), OUTSIDE);
    }

    private static void promise21Road() {
        GallopingRing x = new GallopingRing();
        x.fair(1, 2, 3);
        x.fair(4, 5, 6);
        x.fair(7, 8, 9);
        c.due("road(-1, 0, 1)", x.road(-1, 0, 1), UNKNOWN);
        c.due("road(0, -1, 1)", x.road(0, -1, 1), UNKNOWN);
        c.due("road(3, 0, 51): unknown first", x.road(3, 0, 51), UNKNOWN);
        c.due("road(0, 3, 51): unknown first", x.road(0, 3, 51), UNKNOWN);
        c.due("road(7, 7, 1): unknown first", x.road(7, 7, 1), UNKNOWN);
        c.due("road(0, 1, -1)", x.road(0, 1, -1), OUTSIDE);
        c.due("road(0, 1, 51)", x.road(0, 1, 51), OUTSIDE);
        c.due("road(1, 1, 5): the same", x.road(1, 1, 5), OUTSIDE);
        c.due("road(0, 1, 50)", x.road(0, 1, 50), 0);
        c.due("road(1, 0, 7): the same both ways", x.road(1, 0, 7), 50);
        c.due("road(0, 1, 0)", x.road(0, 1, 0), 7);
        c.due("road(0, 2, 4): another road", x.road(0, 2, 4), 0);
        c.due("road(2, 1, 5): another road", x.road(2, 1, 5), 0);
        c.due("road(2, 0, 4)", x.road(2, 0, 4), 4);
    }

    private static void promise22Earns() {
        GallopingRing x = new GallopingRing();
        c.due("earns() without fairs", x.earns(), 0);
        x.fair(10, 20, 0);
        c.due("earns() of a fair that earns nothing", x.earns(), 0);
        x.fair(10, 20, 50);
        c.due("earns() of one", x.earns(), 50);
        x.fair(20, 30, 60);
        c.due("earns(): one ends as the other begins", x.earns(), 60);
        x.fair(21, 30, 55);
        c.due("earns(): the day behind the end", x.earns(), 105);
        x.fair(0, 9, 10000);
        c.due("earns() of three", x.earns(), 10105);
    }

    private static void promise22RoadDays() {
        GallopingRing x = new GallopingRing();
        x.fair(10, 12, 5);
        x.fair(16, 18, 7);
        x.road(0, 1, 3);
        c.due("earns(): days 13 to 15 on the road", x.earns(), 12);
        x.road(1, 0, 4);
        c.due("earns(): a day too late", x.earns(), 7);
        x.fair(14, 14, 1);
        c.due("earns(): by way of a third", x.earns(), 13);
        dueRound("by way of a third", x, 0, 2, 1);
    }

    private static void promise23Round() {
        GallopingRing x = new GallopingRing();
        dueRound("no fairs", x);
        x.fair(5, 6, 0);
        dueRound("a fair that earns nothing", x);
        x.fair(30, 40, 10);
        x.fair(1, 3, 20);
        x.fair(10, 20, 30);
        dueRound("by days, not by numbers", x, 2, 3, 1);
        c.due("round(-1)", x.round(-1), NONE);
        c.due("round(8)", x.round(8), NONE);
        c.due("round(most)", x.round(Integer.MAX_VALUE), NONE);
        c.due("round(least)", x.round(Integer.MIN_VALUE), NONE);
    }

    private static void promise23FewestFairs() {
        GallopingRing x = new GallopingRing();
        x.fair(1, 2, 10);
        x.fair(3, 4, 10);
        x.fair(5, 6, 0);
        x.fair(1, 4, 20);
        dueRound("of like ones the fewest", x, 3);
        x.fair(7, 8, 5);
        dueRound("of like ones the fewest, ahead of another", x, 3, 4);
    }

    private static void promise23LeastNumbers() {
        GallopingRing x = new GallopingRing();
        x.fair(20, 25, 10);
        x.fair(10, 15, 10);
        x.fair(20, 25, 10);
        x.fair(10, 15, 10);
        dueRound("of like ones the least numbers", x, 1, 0);
        x.road(1, 0, 9);
        dueRound("1, 2 ahead of 3, 0", x, 1, 2);
        x.road(1, 2, 9);
        dueRound("the way that is left", x, 3, 0);
        c.due("earns()", x.earns(), 20);
    }

    private static void promise23AllEight() {
        GallopingRing x = new GallopingRing();
        for (int f = 0; f < 8; f++) {
            x.fair(70 - 10 * f, 70 - 10 * f, 1 + f);
        }
        dueRound("all eight, the last one first", x, 7, 6, 5, 4, 3, 2, 1, 0);
        c.due("earns()", x.earns(), 36);
        for (int f = 1; f < 8; f++) {
            x.road(f - 1, f, 9);
        }
        c.due("earns() over full roads", x.earns(), 36);
        x.road(4, 5, 10);
        c.due("earns() where a road is too long", x.earns(), 31);
        dueRound("4 left out", x, 7, 6, 5, 3, 2, 1, 0);
    }
}
