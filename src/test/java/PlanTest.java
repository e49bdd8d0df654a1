/** Promises 30 to 46: rosters, guesses, odds, fields, the book, the image. */
public final class PlanTest {
    public static void main(String[] args) {
        costs();
        rosters();
        swaps();
        from();
        likely();
        days();
        said();
        whose();
        fields();
        wettestAndNear();
        ledger();
        image();
        about();
        Check.finish();
    }

    private static void costs() {
        RainOnTheOne x = new RainOnTheOne();
        Check.due("there or not", x.cost(4, 6, 99), true);
        Check.due("least", x.cost(0, 0, 0), true);
        Check.due("person", x.cost(5, 0, 0), false);
        Check.due("person", x.cost(-1, 0, 0), false);
        Check.due("day", x.cost(0, 7, 0), false);
        Check.due("day", x.cost(0, -1, 0), false);
        Check.due("cost", x.cost(0, 0, 100), false);
        Check.due("cost", x.cost(0, 0, -1), false);
        x.person(0, true);
        x.person(0, true);
        Check.due("roster", x.roster(7, -1), 60);
    }

    private static void rosters() {
        Check.due("nobody", Made.with(0).roster(7, -1), -1);
        Check.due("one can't", Made.with(1).roster(7, -1), -1);
        RainOnTheOne x = Made.with(2);
        Check.due("two, 3 each", x.roster(3, -1), -1);
        Check.due("two, 4 each", x.roster(4, -1), 70);
        for (int day = 0; day < 7; day++) {
            Check.due("day by day the lowest", x.roster(4, day), day % 2);
        }
        Check.due("k", x.roster(0, -1), -1);
        Check.due("k", x.roster(8, -1), -1);
        Check.due("k", x.roster(7, -1), 70);
        Check.due("day", x.roster(7, 7), -1);
        Check.due("day", x.roster(7, -2), -1);
        RainOnTheOne y = Made.with(5);
        Check.due("five, once each", y.roster(1, -1), -1);
        int[] twice = {0, 1, 0, 1, 2, 3, 2};
        for (int day = 0; day < 7; day++) {
            Check.due("five, twice each", y.roster(2, day), twice[day]);
        }
        // 3 is cheap on all days, but not on two behind one another, and twice at most
        for (int day = 0; day < 7; day++) {
            y.cost(3, day, day);
        }
        Check.due("on 0, 2, 4, 6", y.roster(7, -1), 30 + 12);
        Check.due("on 0 and 2", y.roster(2, -1), 50 + 2);
        int[] due = {3, 0, 3, 0, 1, 2, 1};
        for (int day = 0; day < 7; day++) {
            Check.due("of like ones", y.roster(2, day), due[day]);
        }
        Check.due("on 0 alone", y.roster(1, -1), -1);
        // whoever is cheapest on a day may be too dear by what it keeps from the next days
        RainOnTheOne z = Made.with(3);
        for (int day = 0; day < 7; day++) {
            z.cost(0, day, day % 2 == 0 ? 5 : 1);
            z.cost(1, day, 20);
            z.cost(2, day, day == 3 ? 0 : 30);
        }
        // 1 0 1 0 1 0 1 is 83, 0 1 0 1 0 1 0 is 80, 0 1 0 2 0 1 0 is 60
        int[] best = {0, 1, 0, 2, 0, 1, 0};
        Check.due("roster", z.roster(7, -1), 60);
        for (int day = 0; day < 7; day++) {
            Check.due("roster", z.roster(7, day), best[day]);
        }
    }

    private static void swaps() {
        RainOnTheOne x = Made.with(2);
        Check.due("alike", x.swap(7, 0, 1), 0);
        x.cost(0, 0, 4);
        x.cost(1, 3, 30);
        // 0 1 0 1 0 1 0 costs 84, 1 0 1 0 1 0 1 costs 70
        Check.due("roster", x.roster(7, -1), 70);
        Check.due("roster", x.roster(7, 0), 1);
        Check.due("days 0 and 3 change people", x.swap(7, 0, 3), 20 - 34);
        Check.due("either way", x.swap(7, 3, 0), 20 - 34);
        Check.due("days 0 and 1", x.swap(7, 0, 1), 20 - 14);
        Check.due("of one person", x.swap(7, 0, 2), 0);
        Check.due("like ones", x.swap(7, 3, 3), -10000);
        Check.due("day", x.swap(7, 7, 0), -10000);
        Check.due("day", x.swap(7, 0, -1), -10000);
        Check.due("k", x.swap(0, 0, 1), -10000);
        Check.due("k", x.swap(8, 0, 1), -10000);
        Check.due("no roster", x.swap(3, 0, 1), -10000);
        Check.due("nobody", Made.with(0).swap(7, 0, 1), -10000);
    }

    private static void from() {
        RainOnTheOne x = new RainOnTheOne();
        Check.due("all", x.from(false), (1 << 30) - 1);
        Check.due("all", x.from(true), 30);
        Check.due("seen", x.seen(7, 2), 1);
        // two steps from 7: itself, and 9, 14, 2, 12, 0, 19
        Check.due("from", x.from(false), 1 << 7 | 1 << 9 | 1 << 14 | 1 << 2 | 1 << 12 | 1 | 1 << 19);
        Check.due("seen", x.seen(8, 1), 2);
        Check.due("from", x.from(false), 1 << 2 | 1 << 7 | 1 << 9 | 1 << 14);
        Check.due("seen", x.seen(9, 0), 3);
        Check.due("from", x.from(false), 1 << 9);
        Check.due("from", x.from(true), 1);
        Check.due("seen", x.seen(29, 30), 4);
        Check.due("29 is even steps off 7", x.steps(29, 7) % 2, 1);
        Check.due("the wrong colour", x.from(true), 0);
        Check.due("others", x.seen(30, 1), -2);
        Check.due("others", x.seen(-2, 1), -2);
        Check.due("others", x.seen(3, -1), -2);
        Check.due("others", x.seen(3, 31), -2);
        Check.due("seen", x.seen(3, 3), 5);
        Check.due("seen", x.seen(3, 3), 6);
        Check.due("there are 6", x.seen(3, 3), -2);
        Check.due("seen", x.about(4), 6);
        Check.due("none any more", x.seen(-1, 77), 0);
        Check.due("seen", x.about(4), 0);
        Check.due("all", x.from(true), 30);
        x.shed(1, true);
        x.shed(6, true);
        Check.due("no sheds", x.from(true), 28);
        x.seen(0, 0);
        Check.due("there at first", x.from(false), 1);
        x.seen(0, 1);
        Check.due("it can't stay", x.from(true), 0);
        x.seen(-1, 0);
        x.seen(0, 4);
        Check.due("nor go on from there", x.from(true), 0);
        x.seen(-1, 0);
        Check.due("a shed may be told", x.seen(1, 0), 1);
        Check.due("but not been in", x.from(true), 0);
        x.seen(-1, 0);
        x.seen(3, 2);
        x.seen(4, 2);
        Check.due("not in two at once", x.from(true), 0);
        // all of one colour by 30 steps
        x = new RainOnTheOne();
        x.seen(0, 30);
        Check.due("half of them", x.from(true), 15);
        Check.due("itself too", x.from(false) & 3, 1);
    }

    private static void likely(RainOnTheOne x, int n, int k, long upper, long lower) {
        Check.due("likely " + n + " " + k, x.likely(n, k, false), upper);
        Check.due("likely " + n + " " + k + " lower", x.likely(n, k, true), lower);
    }

    private static void likely() {
        likely(Made.with(0), 1, 1, -1, -1);
        RainOnTheOne x = Made.with(3);
        likely(x, 1, 0, 2, 3);
        likely(x, 1, 1, 1, 3);
        likely(x, 2, 0, 4, 9);
        likely(x, 2, 1, 4, 9);
        likely(x, 2, 2, 1, 9);
        likely(x, 3, 1, 4, 9);
        likely(x, 2, 3, 0, 1);
        likely(x, 10, 10, 1, 59049);
        likely(x, 1, 10, 0, 1);
        likely(x, 0, 0, -1, -1);
        likely(x, 11, 0, -1, -1);
        likely(x, 10, 11, -1, -1);
        likely(x, 10, -1, -1, -1);
        likely(Made.with(1), 4, 4, 1, 1);
        likely(Made.with(1), 4, 3, 0, 1);
        likely(Made.with(1), 4, 0, 0, 1);
        likely(Made.with(2), 4, 2, 3, 8);
        likely(Made.with(2), 10, 5, 63, 256);
        likely(Made.with(5), 10, 0, 1048576, 9765625);
        // 252 * 4^5 of 5^10
        likely(Made.with(5), 10, 5, 258048, 9765625);
        // 10 * 4^9 of 5^10
        likely(Made.with(5), 10, 1, 2 * 262144, 1953125);
        likely(Made.with(4), 3, 1, 27, 64);
    }

    private static void days() {
        int[] upper = {-1, 1, 3, 11, 25, 137};
        int[] lower = {-1, 1, 1, 2, 3, 12};
        for (int people = 0; people <= 5; people++) {
            Check.due("days", Made.with(people).days(false), upper[people]);
            Check.due("days", Made.with(people).days(true), lower[people]);
        }
    }

    private static void said() {
        RainOnTheOne x = Made.with(2);
        Check.due("said", x.said(0, -999), 1);
        Check.due("said", x.said(1, 999), 2);
        Check.due("others", x.said(0, 1000), -2);
        Check.due("others", x.said(0, -1000), -2);
        Check.due("nobody", x.said(2, 0), -2);
        Check.due("nobody", x.said(-2, 0), -2);
        for (int i = 3; i <= 8; i++) {
            Check.due("said", x.said(0, 0), i);
        }
        Check.due("there are 8", x.said(0, 0), -2);
        Check.due("said", x.about(5), 8);
        Check.due("none any more", x.said(-1, 5000), 0);
        Check.due("said", x.about(5), 0);
    }

    private static void whose() {
        RainOnTheOne x = Made.with(3);
        Check.text(x, "wants steps;");
        Check.text(x, "pours 2;");
        Check.text(x, "wants 99-steps;");
        Check.text(x, "wants 5000*(who-1);");
        Check.due("without said all are", x.whose(), 15);
        x.said(0, 99);
        Check.due("without wants it is 99 less steps", x.whose(), 6);
        x.said(1, 98);
        Check.due("both", x.whose(), 6);
        x.said(1, 0);
        Check.due("not both", x.whose(), 0);
        x.said(-1, 0);
        x.said(1, 1);
        Check.due("steps", x.whose(), 1);
        x.said(-1, 0);
        x.said(0, -999);
        x.said(1, 0);
        x.said(2, 999);
        Check.due("at least, at most", x.whose(), 8);
        Check.due("it does not matter which rules", x.by(1), true);
        Check.due("at least, at most", x.whose(), 8);
        x.said(-1, 0);
        x.said(2, 2);
        Check.due("as now", x.whose(), 1);
        x.walk(2, 3);
        Check.due("as now", x.whose(), 0);
    }

    private static void fields() {
        RainOnTheOne x = new RainOnTheOne();
        Check.due("none", x.thirsty(false), 0);
        Check.due("none", x.thirsty(true), 0);
        Check.due("none", x.driest(), -1);
        x.field(29, 5);
        x.field(0, 5);
        x.field(7, 4);
        Check.due("bits", x.thirsty(false), 1 << 29 | 1 << 7 | 1);
        Check.due("in all", x.thirsty(true), 14);
        Check.due("of like ones the lowest", x.driest(), 0);
        x.person(0, true);
        x.minute(1);
        Check.due("in all", x.thirsty(true), 11);
        Check.due("driest", x.driest(), 29);
        x.minute(1);
        Check.due("more than it needs", x.thirsty(false), 1 << 29 | 1 << 7);
        Check.due("in all", x.thirsty(true), 9);
        x.shed(29, true);
        Check.due("a shed too", x.driest(), 29);
        x.field(0, 6);
        Check.due("just enough", x.thirsty(false), 1 << 29 | 1 << 7);
        RainOnTheOne y = new RainOnTheOne();
        y.field(12, 1);
        Check.due("by one", y.thirsty(false), 1 << 12);
        Check.due("by one", y.driest(), 12);
    }

    private static void wettestAndNear() {
        RainOnTheOne x = new RainOnTheOne();
        Check.due("none", x.wettest(), -1);
        Check.due("nobody", x.near(3), -1);
        x.person(0, false);
        x.person(1, true);
        Check.due("above 0", x.wettest(), -1);
        x.minute(3);
        Check.due("wettest", x.wettest(), 1);
        Check.due("near", x.near(0), 0);
        Check.due("near", x.near(29), 1);
        Check.due("of like ones the lowest", x.near(6), 0);
        x.walk(0, 6);
        Check.due("of like ones the lowest", x.near(7), 0);
        Check.due("others", x.near(-1), -1);
        Check.due("others", x.near(30), -1);
        x.shed(29, true);
        Check.due("a shed", x.near(29), -1);
        // 0 gets as wet as 1 is by then: 6 - 2 by two on the way, then 3 to 3
        x.hat(1, false);
        x.hat(0, true);
        Check.due("on the way", x.minute(2), 0);
        Check.due("rains", x.minute(1), 1);
        Check.due("wet", x.of(0, 2), 3);
        Check.due("wet", x.of(1, 2), 3);
        Check.due("of like ones the lowest", x.wettest(), 0);
        x.hat(0, false);
        x.minute(2);
        Check.due("wet", x.of(1, 2), 1);
        Check.due("of like ones the lowest", x.wettest(), 0);
        x.minute(1);
        Check.due("dry again", x.wettest(), -1);
    }

    private static void ledger() {
        RainOnTheOne x = new RainOnTheOne();
        Check.due("all", x.ledger(-1), 0);
        Check.due("nobody", x.ledger(0), -2);
        x.person(0, true);
        x.person(0, false);
        x.minute(2);
        x.hat(0, false);
        x.hat(1, true);
        x.minute(1);
        Check.due("of 0", x.ledger(0), 6);
        Check.due("of 1", x.ledger(1), 3);
        Check.due("all", x.ledger(-1), 9);
        Check.due("others", x.ledger(2), -2);
        Check.due("others", x.ledger(-2), -2);
        x.by(Check.text(x, "pours 1;"));
        x.minute(29);
        Check.due("out of the book", x.ledger(0), 0);
        Check.due("of 1", x.ledger(1), 3 + 29);
    }

    private static void image() {
        RainOnTheOne x = new RainOnTheOne();
        x.person(1, true);
        Check.text(x, "wants 5;");
        x.by(0);
        x.shed(9, true);
        x.field(4, 4);
        x.cost(0, 0, 1);
        x.seen(8, 1);
        x.said(0, 5);
        x.minute(3);
        Check.due("image", x.image(), 3);
        x.person(2, true);
        x.shed(9, false);
        x.shed(10, true);
        x.field(4, 0);
        x.cost(0, 0, 9);
        x.seen(-1, 0);
        x.said(0, 4);
        x.undo();
        Check.text(x, "wants 6;");
        x.by(1);
        x.minute(40);
        x.years(5, 5);
        Check.tape(x, "draw;;");
        Check.due("a fault", x.text(), -1);
        Check.tape(x, "abc");
        Check.due("back", x.back(), 3);
        Check.due("people", x.about(0), 1);
        Check.due("texts", x.about(1), 1);
        Check.due("the text", x.about(2), 0);
        Check.due("steps", x.about(3), 3);
        Check.due("seen", x.about(4), 1);
        Check.due("said", x.about(5), 1);
        Check.due("not the tape", x.about(6), 3);
        Check.due("not the fault", x.fault(0), 1);
        Check.due("not the fault", x.fault(1), 5);
        Check.due("shed", x.ofCell(9, 2), 1);
        Check.due("no shed", x.ofCell(10, 2), 0);
        Check.due("need", x.ofCell(4, 0), 4);
        Check.due("water", x.ofCell(1, 1), 6);
        Check.due("wet", x.of(0, 2), 6);
        Check.due("book", x.book(-1, 0), 2);
        Check.due("from", x.from(true), 3);
        Check.due("whose", x.whose(), 1);
        Check.due("x", x.is(2), 241);
        Check.due("the steps are too", x.undo(), 2);
        Check.due("minute", x.is(0), 2);
        Check.due("it stays", x.back(), 3);
        Check.due("steps", x.about(3), 3);
        x.person(0, true);
        Check.due("cost", x.roster(7, -1), 61);
        Check.due("text anew", Check.text(x, "wants 7;"), 1);
        x.by(1);
        Check.due("wants", x.of(0, 4), 7);
        x.by(0);
        Check.due("wants", x.of(0, 4), 5);
        Check.due("another image", x.image(), 3);
        x.minute(5);
        Check.due("back", x.back(), 3);
        Check.due("people", x.about(0), 2);
    }

    private static void about() {
        RainOnTheOne x = new RainOnTheOne();
        Check.due("others", x.about(7), -2);
        Check.due("others", x.about(-1), -2);
        x.person(0, true);
        Check.text(x, "draw;");
        x.by(0);
        x.draw();
        x.seen(0, 0);
        x.said(0, 0);
        x.feed(0, 0, 0, 0, 0);
        int[] due = {1, 1, 0, 1, 1, 1, 20};
        for (int what = 0; what < due.length; what++) {
            Check.due("about " + what, x.about(what), due[what]);
        }
    }
}
