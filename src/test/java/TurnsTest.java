/** Promises 24 to 29: turns, looks, the queue and the book. */
public final class TurnsTest {
    private static final int NONE = -1, OUTSIDE = -102, STATE = -103, FULL = -104;
    private static final Check c = new Check("TurnsTest");

    public static void main(String[] args) {
        promise24Turn();
        promise24TurnNotAllowed();
        promise24TurnHours();
        promise25Look();
        promise26Hours();
        promise27Come();
        promise28Next();
        promise28NextBlocked();
        promise29Book();
        c.finish();
    }

    private static GallopingRing pair() {
        GallopingRing x = new GallopingRing();
        x.horse(0, 100, 0);
        x.horse(6, 100, 0);
        return x;
    }

    private static void promise24Turn() {
        GallopingRing x = pair();
        x.come(5);
        x.sit(0, 20);
        x.sit(6, 30);
        c.due("turn() of two", x.turn(), 2);
        c.due("they went", x.count(1), 0);
        c.due("rider(0)", x.rider(0), 0);
        c.due("shake()", x.shake(), 0);
        c.due("rising()", x.rising(), 200);
        c.due("count(6)", x.count(6), 200);
        c.due("nobody was let in", x.count(2), 1);
        c.due("count(4)", x.count(4), 1);
        c.due("count(5)", x.count(5), 2);
        c.due("turn() of nobody", x.turn(), 0);
        c.due("count(4) then", x.count(4), 2);
        GallopingRing none = new GallopingRing();
        c.due("turn() without horses", none.turn(), 0);
    }

    private static void promise24TurnNotAllowed() {
        GallopingRing x = pair();
        x.sit(0, 20);
        x.law(0, 199);
        c.due("turn() that shakes", x.turn(), STATE);
        x.law(0, 200);
        c.due("turn() at the law's edge", x.turn(), 1);
        x.law(1, 199);
        c.due("turn() that rises", x.turn(), STATE);
        x.law(1, 200);
        c.due("turn() at the lift's edge", x.turn(), 0);
    }

    private static void promise24TurnHours() {
        GallopingRing x = pair();
        x.hours(2);
        for (int i = 0; i < 20; i++) {
            c.due("turn() " + i, x.turn(), 0);
        }
        c.due("turn() beyond the hours", x.turn(), STATE);
        x.sit(0, 5);
        c.due("turn() beyond them with a rider", x.turn(), STATE);
        c.due("it sits on", x.rider(0), 5);
        x.hours(1);
        c.due("turn() with fewer hours", x.turn(), STATE);
        x.hours(3);
        c.due("turn() with more hours", x.turn(), 1);
        c.due("look()", x.look(), 21);
        x.hours(1);
        c.due("turn() behind a look", x.turn(), 0);
    }

    private static void promise25Look() {
        GallopingRing x = pair();
        c.due("look() at first", x.look(), 0);
        x.turn();
        x.turn();
        x.turn();
        c.due("look()", x.look(), 3);
        c.due("look() again", x.look(), 0);
        c.due("count(4)", x.count(4), 0);
    }

    private static void promise26Hours() {
        GallopingRing x = pair();
        c.due("hours(0)", x.hours(0), OUTSIDE);
        c.due("hours(1001)", x.hours(1001), OUTSIDE);
        c.due("hours(-1)", x.hours(-1), OUTSIDE);
        c.due("hours(1)", x.hours(1), 100);
        c.due("hours(1000)", x.hours(1000), 1);
        c.due("hours(7)", x.hours(7), 1000);
        x.turn();
        x.hours(8);
        c.due("hours() are no look", x.count(4), 1);
    }

    private static void promise27Come() {
        GallopingRing x = pair();
        c.due("come(0)", x.come(0), OUTSIDE);
        c.due("come(151)", x.come(151), OUTSIDE);
        for (int n = 1; n <= 100; n++) {
            c.due("come() " + n, x.come(n % 2 == 0 ? 150 : 1), n);
        }
        c.due("come(1): full", x.come(1), FULL);
        c.due("come(0): outside ahead of full", x.come(0), OUTSIDE);
        c.due("next()", x.next(), 0);
        c.due("come(1): one went", x.come(1), 100);
        c.due("come(1): full again", x.come(1), FULL);
    }

    private static void promise28Next() {
        GallopingRing x = pair();
        c.due("next(): nobody waits", x.next(), NONE);
        x.come(30);
        x.come(20);
        x.come(10);
        c.due("next()", x.next(), 0);
        c.due("rider(0) came first", x.rider(0), 30);
        c.due("count(2)", x.count(2), 2);
        c.due("next() against it", x.next(), 6);
        c.due("rider(6) came second", x.rider(6), 20);
        c.due("next(): no horse is free", x.next(), NONE);
        c.due("it waits on", x.count(2), 1);
        x.rise(0);
        c.due("next() then", x.next(), 0);
        c.due("rider(0) came third", x.rider(0), 10);
        c.due("count(2) then", x.count(2), 0);
        c.due("next(): nobody waits any more", x.next(), NONE);
    }

    private static void promise28NextBlocked() {
        GallopingRing x = pair();
        x.law(0, 200);
        x.come(21);
        x.come(5);
        c.due("next(): the first is blocked", x.next(), NONE);
        c.due("both wait on", x.count(2), 2);
        x.law(0, 210);
        c.due("next() by another law", x.next(), 0);
        c.due("rider(0)", x.rider(0), 21);
        x.law(1, 225);
        c.due("next(): it would rise too much", x.next(), NONE);
        x.law(1, 226);
        c.due("next() by another lift", x.next(), 6);
    }

    private static void promise29Book() {
        GallopingRing x = pair();
        c.due("book(-1)", x.book(-1), OUTSIDE);
        c.due("book(100001)", x.book(100001), OUTSIDE);
        c.due("book(0) at first", x.book(0), 0);
        x.sit(0, 1);
        x.turn();
        x.sit(0, 1);
        x.sit(6, 1);
        x.turn();
        c.due("count(5)", x.count(5), 3);
        x.look();
        c.due("book(100001) keeps them", x.book(100001), OUTSIDE);
        c.due("book(3) agrees", x.book(3), 0);
        c.due("count(5) then", x.count(5), 0);
        x.sit(0, 1);
        x.turn();
        c.due("book(0): one was not counted", x.book(0), 1);
        c.due("book(100000): none is there", x.book(100000), -100000);
    }
}
