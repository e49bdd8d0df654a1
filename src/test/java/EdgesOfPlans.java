/** Promises 30 to 46, a test for each of their sentences: its edges, and what is refused. */
final class EdgesOfPlans {
    private EdgesOfPlans() {
    }

    static void run() {
        cost();
        noCost();
        roster();
        noRoster();
        swap();
        noSwap();
        seen();
        notSeen();
        from();
        likely();
        notLikely();
        days();
        noDays();
        said();
        notSaid();
        whose();
        thirsty();
        driest();
        noDriest();
        wettest();
        noWettest();
        near();
        notNear();
        ledger();
        noLedger();
        image();
        back();
        about();
        notAbout();
    }

    private static void cost() {
        Doc.promise(30, "A COST: true.");
        RainOnTheOne x = Made.with(5);
        for (int p = 0; p < 5; p++) {
            for (int day = 0; day < 7; day++) {
                Check.due("the most", x.cost(p, day, 99), true);
            }
        }
        Check.due("all are 99", x.roster(2, -1), 7 * 99);
        Check.due("the least", x.cost(4, 6, 0), true);
        Check.due("the last person on the last day", x.roster(2, -1), 6 * 99);
        Check.due("whose day it is", x.roster(2, 6), 4);
        Check.due("the least", x.cost(4, 0, 0), true);
        Check.due("on the first day", x.roster(2, -1), 5 * 99);
        Check.due("as it is", x.cost(4, 0, 0), true);
        Check.due("it is no STEP", x.about(3), 0);
    }

    private static void noCost() {
        Doc.promise(30, "False for others (PEOPLE 0 .. 4, there or not; days 0 .. 6).");
        RainOnTheOne x = Made.busy();
        String before = Made.state(x);
        for (int p : Made.beside(0, 4)) {
            Check.due("nobody " + p, x.cost(p, 0, 1), false);
        }
        for (int day : Made.beside(0, 6)) {
            Check.due("no day " + day, x.cost(0, day, 1), false);
        }
        for (int cost : Made.beside(0, 99)) {
            Check.due("no cost " + cost, x.cost(0, 0, cost), false);
        }
        Check.due("nothing is done", Made.state(x), before);
        RainOnTheOne y = new RainOnTheOne();
        for (int p = 0; p < 5; p++) {
            Check.due("not there", y.cost(p, p, 9 - p), true);
        }
        y.person(0, true);
        y.person(0, true);
        // 0 1 0 1 0 1 0: 0 on day 0 costs 9, 1 on day 1 costs 8
        Check.due("there now", y.roster(7, -1), 9 + 8 + 50);
    }

    private static void roster() {
        Doc.promise(31, "A ROSTER: COST in all (day NONE), whose day it is.");
        RainOnTheOne x = Made.with(2);
        Check.due("in all", x.roster(4, -1), 70);
        Check.due("the first day", x.roster(4, 0), 0);
        Check.due("the last day", x.roster(4, 6), 0);
        Check.due("the day ahead of it", x.roster(4, 5), 1);
        Check.due("k 7", x.roster(7, -1), 70);
        for (int day = 0; day < 7; day++) {
            x.cost(0, day, 0);
            x.cost(1, day, 0);
        }
        Check.due("for nothing", x.roster(7, -1), 0);
    }

    private static void noRoster() {
        Doc.promise(31, "NONE: none, and for others.");
        Check.due("nobody", new RainOnTheOne().roster(7, -1), -1);
        Check.due("nobody", new RainOnTheOne().roster(7, 0), -1);
        Check.due("one can't", Made.with(1).roster(7, 0), -1);
        int[] least = {0, 0, 4, 3, 2, 2};
        for (int people = 2; people <= 5; people++) {
            RainOnTheOne x = Made.with(people);
            for (int k = 1; k <= 7; k++) {
                Check.due(people + " people, " + k, x.roster(k, -1), k < least[people] ? -1 : 70);
            }
        }
        RainOnTheOne x = Made.with(3);
        for (int k : Made.beside(1, 7)) {
            Check.due("k " + k, x.roster(k, -1), -1);
        }
        for (int day : Made.besideNone(6)) {
            Check.due("day " + day, x.roster(7, day), -1);
        }
    }

    private static void swap() {
        Doc.promise(32, "SWAPPED.");
        RainOnTheOne x = Made.with(2);
        Check.due("of like costs", x.swap(4, 0, 1), 0);
        Check.due("of one person", x.swap(4, 0, 6), 0);
        x.cost(0, 0, 0);
        x.cost(0, 5, 0);
        x.cost(1, 5, 99);
        x.cost(1, 0, 99);
        // 0 1 0 1 0 1 0 is 10 * 5 + 0 + 99, 1 0 1 0 1 0 1 is 10 * 5 + 99 + 0
        Check.due("of like ones", x.roster(4, 0), 0);
        Check.due("the first and the sixth day change", x.swap(4, 0, 5), 0);
        // day 4 costs 10 by either; on day 5 0 costs nothing and 1 99
        Check.due("it costs less", x.swap(4, 4, 5), 99);
        Check.due("it costs more", x.swap(4, 0, 1), -99);
        Check.due("the last two days", x.swap(4, 6, 5), 99);
        for (int a = 0; a < 7; a++) {
            for (int b = 0; b < 7; b++) {
                Check.due("either way " + a + " " + b, x.swap(4, a, b), x.swap(4, b, a));
            }
        }
        Check.due("the second's day first", x.swap(4, 1, 0), -99);
    }

    private static void noSwap() {
        Doc.promise(32, "-10000 for others.");
        RainOnTheOne x = Made.with(2);
        for (int day = 0; day < 7; day++) {
            Check.due("like days", x.swap(7, day, day), -10000);
        }
        for (int k : Made.beside(1, 7)) {
            Check.due("k " + k, x.swap(k, 0, 1), -10000);
        }
        Check.due("no such roster", x.swap(3, 0, 1), -10000);
        for (int day : Made.beside(0, 6)) {
            Check.due("day " + day, x.swap(7, day, 0), -10000);
            Check.due("day " + day, x.swap(7, 0, day), -10000);
        }
        Check.due("nobody", new RainOnTheOne().swap(7, 0, 1), -10000);
        Check.due("one alone", Made.with(1).swap(7, 0, 1), -10000);
    }

    private static void seen() {
        Doc.promise(33, "SEEN: how many there are (c NONE: none any more).");
        RainOnTheOne x = new RainOnTheOne();
        Check.due("none, and there were none", x.seen(-1, 0), 0);
        Check.due("the least", x.seen(0, 0), 1);
        Check.due("the most", x.seen(29, 30), 2);
        Check.due("the same again", x.seen(29, 30), 3);
        for (int i = 4; i <= 6; i++) {
            Check.due("more", x.seen(3, 3), i);
        }
        Check.due("none any more", x.seen(-1, 0), 0);
        Check.due("about", x.about(4), 0);
        Check.due("of all cells", x.from(true), 30);
        Check.due("anew", x.seen(7, 7), 1);
        Check.due("whatever n is", x.seen(-1, Integer.MAX_VALUE), 0);
        Check.due("it is no STEP", x.about(3), 0);
        // of what was seen once nothing is left: from 0 no STEP can be gone
        RainOnTheOne shut = Made.only();
        for (int i = 0; i < 6; i++) {
            shut.seen(29, 7);
        }
        Check.due("none any more", shut.seen(-1, 0), 0);
        Check.due("at first", shut.from(false), 1);
        shut.seen(0, 0);
        Check.due("at first", shut.from(false), 1);
    }

    private static void notSeen() {
        Doc.promise(33, "-2 for others, or if there are 6.");
        RainOnTheOne x = Made.busy();
        String before = Made.state(x);
        for (int c : Made.besideNone(29)) {
            Check.due("no cell " + c, x.seen(c, 1), -2);
        }
        for (int n : Made.beside(0, 30)) {
            Check.due("n " + n, x.seen(8, n), -2);
        }
        Check.due("nothing is done", Made.state(x), before);
        RainOnTheOne y = new RainOnTheOne();
        for (int i = 0; i < 6; i++) {
            y.seen(14, 2);
        }
        int from = y.from(false);
        Check.due("there are 6", y.seen(0, 0), -2);
        Check.due("about", y.about(4), 6);
        Check.due("nothing is done", y.from(false), from);
    }

    private static void from() {
        Doc.promise(34, "FROM: CELLS (many false; bits), how many (many true).");
        RainOnTheOne x = new RainOnTheOne();
        Check.due("all", x.from(false), (1 << 30) - 1);
        Check.due("all", x.from(true), 30);
        x.seen(29, 0);
        Check.due("the last", x.from(false), 1 << 29);
        Check.due("one", x.from(true), 1);
        x.seen(0, 0);
        Check.due("none", x.from(false), 0);
        Check.due("none", x.from(true), 0);
        x.seen(-1, 0);
        x.seen(0, 1);
        Check.due("two", x.from(false), 1 << 1 | 1 << 6);
        Check.due("two", x.from(true), 2);
        Check.due("but for sheds", Made.only(29).from(false), 1 | 1 << 29);
    }

    private static void likely() {
        Doc.promise(35, "LIKELY: the upper (low false), the lower one (low true).");
        RainOnTheOne x = Made.with(5);
        Check.due("never of ten", x.likely(10, 0, false), 1048576);
        Check.due("never of ten", x.likely(10, 0, true), 9765625);
        Check.due("ten of ten", x.likely(10, 10, false), 1);
        Check.due("ten of ten", x.likely(10, 10, true), 9765625);
        Check.due("one of one", x.likely(1, 1, false), 1);
        Check.due("one of one", x.likely(1, 1, true), 5);
        Check.due("more than it can be", x.likely(9, 10, false), 0);
        Check.due("more than it can be", x.likely(9, 10, true), 1);
        RainOnTheOne one = Made.with(1);
        Check.due("it alone", one.likely(10, 10, false), 1);
        Check.due("it alone", one.likely(10, 10, true), 1);
        Check.due("it alone", one.likely(10, 9, false), 0);
        Check.due("it alone", one.likely(10, 9, true), 1);
        Check.due("it alone", one.likely(1, 0, false), 0);
        Check.due("it alone", one.likely(1, 0, true), 1);
    }

    private static void notLikely() {
        Doc.promise(35, "NONE for others, or without PEOPLE.");
        RainOnTheOne x = Made.with(2);
        for (int i = 0; i < 2; i++) {
            boolean low = i == 1;
            for (int n : Made.beside(1, 10)) {
                Check.due("n " + n, x.likely(n, 1, low), -1);
            }
            for (int k : Made.beside(0, 10)) {
                Check.due("k " + k, x.likely(10, k, low), -1);
            }
            Check.due("n 0", x.likely(0, 0, low), -1);
            Check.due("nobody", new RainOnTheOne().likely(1, 1, low), -1);
            Check.due("nobody", new RainOnTheOne().likely(1, 0, low), -1);
        }
    }

    private static void days() {
        Doc.promise(36, "DAYS till each was it: the upper (low false), the lower one (low true).");
        // m * (1 + 1/2 + .. + 1/m)
        int[] upper = {1, 3, 11, 25, 137};
        int[] lower = {1, 1, 2, 3, 12};
        for (int people = 1; people <= 5; people++) {
            Check.due("upper of " + people, Made.with(people).days(false), upper[people - 1]);
            Check.due("lower of " + people, Made.with(people).days(true), lower[people - 1]);
        }
    }

    private static void noDays() {
        Doc.promise(36, "NONE without PEOPLE.");
        Check.due("upper", new RainOnTheOne().days(false), -1);
        Check.due("lower", new RainOnTheOne().days(true), -1);
        RainOnTheOne x = Made.with(3);
        x.back();
        Check.due("nobody any more", x.days(false), -1);
    }

    private static void said() {
        Doc.promise(37, "SAID: how many there are (person NONE: none any more).");
        RainOnTheOne x = Made.with(5);
        Check.due("none, and there were none", x.said(-1, 0), 0);
        Check.due("the least", x.said(0, -999), 1);
        Check.due("the most", x.said(4, 999), 2);
        for (int i = 3; i <= 8; i++) {
            Check.due("the same again", x.said(4, 999), i);
        }
        Check.due("none any more", x.said(-1, 0), 0);
        Check.due("about", x.about(5), 0);
        Check.due("anew", x.said(2, 0), 1);
        Check.due("whatever wants is", x.said(-1, Integer.MIN_VALUE), 0);
        Check.due("it is no STEP", x.about(3), 0);
    }

    private static void notSaid() {
        Doc.promise(37, "-2 for others, or if there are 8.");
        RainOnTheOne x = Made.busy();
        String before = Made.state(x);
        for (int p : Made.besideNone(2)) {
            Check.due("nobody " + p, x.said(p, 1), -2);
        }
        for (int wants : Made.beside(-999, 999)) {
            Check.due("wants " + wants, x.said(0, wants), -2);
        }
        Check.due("nothing is done", Made.state(x), before);
        Check.due("nobody yet", new RainOnTheOne().said(0, 1), -2);
        RainOnTheOne y = Made.with(1);
        Check.text(y, "wants 7;");
        for (int i = 0; i < 8; i++) {
            y.said(0, 7);
        }
        Check.due("there are 8", y.said(0, 6), -2);
        Check.due("about", y.about(5), 8);
        Check.due("nothing is done", y.whose(), 1);
    }

    private static void whose() {
        Doc.promise(38, "WHOSE LAW (bits).");
        RainOnTheOne x = Made.with(2);
        Check.due("no texts", x.whose(), 0);
        x.said(0, 99);
        Check.due("no texts", x.whose(), 0);
        String[] texts = {"wants 99;", "wants 98;", "", "wants 9999;"};
        for (String text : texts) {
            Check.text(x, text);
        }
        Check.due("the first, and the one without a law", x.whose(), 5);
        x.said(-1, 0);
        Check.due("nothing is said: all", x.whose(), 15);
        x.said(1, 999);
        Check.due("the last", x.whose(), 8);
        x.said(1, 998);
        Check.due("none", x.whose(), 0);
    }

    private static void thirsty() {
        Doc.promise(39, "THIRSTY: CELLS (many false; bits), how much they lack together (many true).");
        RainOnTheOne x = new RainOnTheOne();
        Check.due("none", x.thirsty(false), 0);
        Check.due("none", x.thirsty(true), 0);
        for (int c = 0; c < 30; c++) {
            x.field(c, 99);
        }
        Check.due("all", x.thirsty(false), (1 << 30) - 1);
        Check.due("all", x.thirsty(true), 2970);
        for (int c = 0; c < 29; c++) {
            x.field(c, 0);
        }
        x.field(29, 1);
        Check.due("the last", x.thirsty(false), 1 << 29);
        Check.due("by one", x.thirsty(true), 1);
        x.field(29, 0);
        noThirst(x);
    }

    /** Sheds and a ruling text, but no NEED: nothing lacks. */
    private static void noThirst(RainOnTheOne x) {
        x.shed(29, true);
        for (int t = 0; t < 4; t++) {
            x.by(Check.text(x, ""));
            Check.due("none", x.thirsty(false), 0);
            Check.due("none", x.thirsty(true), 0);
            Check.due("none", x.driest(), -1);
        }
    }

    private static void driest() {
        Doc.promise(40, "DRIEST.");
        RainOnTheOne x = new RainOnTheOne();
        x.field(29, 1);
        Check.due("the last", x.driest(), 29);
        x.field(28, 1);
        Check.due("of like ones the lowest", x.driest(), 28);
        x.field(0, 1);
        Check.due("of like ones the lowest", x.driest(), 0);
        x.field(5, 2);
        Check.due("by one more", x.driest(), 5);
        x.shed(5, true);
        Check.due("a shed all the same", x.driest(), 5);
    }

    private static void noDriest() {
        Doc.promise(40, "NONE: none.");
        RainOnTheOne x = new RainOnTheOne();
        Check.due("no fields", x.driest(), -1);
        x.person(0, true);
        x.minute(1);
        Check.due("more water than need", x.driest(), -1);
        x.field(0, 3);
        Check.due("just as much", x.driest(), -1);
        x.field(0, 4);
        Check.due("one less", x.driest(), 0);
    }

    private static void wettest() {
        Doc.promise(41, "WETTEST.");
        RainOnTheOne x = new RainOnTheOne();
        x.person(9, false);
        x.person(0, true);
        x.minute(1);
        x.hat(1, false);
        x.minute(2);
        Check.due("wet", x.of(1, 2), 1);
        Check.due("by one", x.wettest(), 1);
        RainOnTheOne y = new RainOnTheOne();
        for (int p = 0; p < 5; p++) {
            y.person(0, p == 4);
        }
        y.minute(60);
        Check.due("the last", y.wettest(), 4);
        y.hat(3, true);
        y.minute(60);
        Check.due("wet", y.of(3, 2), 99);
        Check.due("the one ahead of it", y.wettest(), 3);
        y.undo();
        y.hat(4, false);
        y.hat(2, true);
        y.minute(60);
        Check.due("of like ones the lowest", y.wettest(), 2);
    }

    private static void noWettest() {
        Doc.promise(41, "NONE: none.");
        Check.due("nobody", new RainOnTheOne().wettest(), -1);
        RainOnTheOne x = new RainOnTheOne();
        x.person(0, true);
        Check.due("not wet yet", x.wettest(), -1);
        x.minute(1);
        x.hat(0, false);
        x.minute(2);
        Check.due("wet by one", x.wettest(), 0);
        x.minute(1);
        Check.due("dry", x.wettest(), -1);
        RainOnTheOne five = Made.with(5);
        five.hat(0, true);
        five.minute(1);
        five.hat(0, false);
        five.shed(29, true);
        five.minute(2);
        five.hat(4, true);
        Check.due("wet by one, of five", five.wettest(), 0);
        five.minute(1);
        Check.due("dry, though it has been", five.wettest(), -1);
    }

    private static void near() {
        Doc.promise(42, "NEAREST.");
        RainOnTheOne x = new RainOnTheOne();
        x.person(0, true);
        Check.due("the farthest there is", x.near(29), 0);
        x.person(1, false);
        Check.due("nearer by one", x.near(29), 1);
        Check.due("there", x.near(0), 0);
        Check.due("there", x.near(1), 1);
        Check.due("of like ones the lowest", x.near(6), 0);
        x.person(29, false);
        Check.due("there", x.near(29), 2);
        RainOnTheOne path = Made.only(1, 2, 3, 4, 5, 11, 17, 16, 15, 14, 13, 12, 18, 24, 25, 26, 27, 28, 29);
        path.person(29, false);
        Check.due("nineteen steps", path.near(0), 0);
    }

    private static void notNear() {
        Doc.promise(42, "NONE: none, and for others.");
        Check.due("nobody", new RainOnTheOne().near(0), -1);
        RainOnTheOne x = Made.only(29);
        x.person(0, true);
        Check.due("no steps", x.near(29), -1);
        Check.due("a shed", x.near(1), -1);
        for (int c : Made.beside(0, 29)) {
            Check.due("no cell " + c, x.near(c), -1);
        }
        RainOnTheOne y = new RainOnTheOne();
        y.person(8, false);
        y.walk(0, 9);
        y.shed(8, true);
        y.undo();
        Check.due("from a shed there are none", y.near(9), -1);
        Check.due("nor to it", y.near(8), -1);
    }

    private static void ledger() {
        Doc.promise(43, "BY THE BOOK.");
        RainOnTheOne x = new RainOnTheOne();
        Check.due("an empty book", x.ledger(-1), 0);
        for (int p = 0; p < 5; p++) {
            x.person(0, p == 4);
        }
        Check.due("an empty book", x.ledger(4), 0);
        x.by(Check.text(x, "pours 1;"));
        x.minute(1);
        x.by(-1);
        x.minute(29);
        Check.due("thirty rains", x.ledger(4), 88);
        Check.due("none", x.ledger(0), 0);
        Check.due("all", x.ledger(-1), 88);
        x.hat(0, true);
        x.minute(1);
        Check.due("the eldest is out", x.ledger(4), 87);
        Check.due("the lowest", x.ledger(0), 3);
        Check.due("all", x.ledger(-1), 90);
        x.minute(6);
        Check.due("the cell is full: less came", x.ledger(0), 3 * 2 + 3 + 2);
    }

    private static void noLedger() {
        Doc.promise(43, "-2 for others.");
        RainOnTheOne x = Made.busy();
        for (int p : Made.besideNone(2)) {
            Check.due("nobody " + p, x.ledger(p), -2);
        }
        Check.due("nobody yet", new RainOnTheOne().ledger(0), -2);
        Check.due("a sixth", Made.with(5).ledger(5), -2);
    }

    private static void image() {
        Doc.promise(44, "THE IMAGE is as all is now: MINUTE.");
        Check.due("of a new one", new RainOnTheOne().image(), 0);
        RainOnTheOne x = Made.busy();
        String before = Made.world(x);
        Check.due("minute", x.image(), 8);
        x.years(77, 40);
        x.back();
        Check.due("as it was", Made.world(x), before);
        Check.due("at the last minute", Made.late(9999).image(), 9999);
    }

    private static void back() {
        Doc.promise(45, "BACK to THE IMAGE (it stays): MINUTE.");
        RainOnTheOne x = new RainOnTheOne();
        x.minute(3);
        x.image();
        for (int i = 0; i < 3; i++) {
            x.minute(50);
            x.person(x.is(1), true);
            Check.due("minute", x.back(), 3);
            Check.due("nobody", x.about(0), 0);
            Check.due("steps", x.about(3), 3);
        }
        x.undo();
        x.image();
        Check.due("the latest image", x.back(), 2);
        Check.due("steps", x.about(3), 2);
    }

    /** All that can be told is told at once, as much as can be: none of it is in another's place. */
    private static void allAtOnce() {
        RainOnTheOne x = Made.with(5);
        for (int p = 0; p < 5; p++) {
            for (int day = 0; day < 7; day++) {
                x.cost(p, day, day % 5 == p ? 1 : 90);
            }
        }
        x.field(29, 97);
        x.field(0, 98);
        Check.text(x, "wants 77;");
        for (int i = 0; i < 6; i++) {
            x.seen(i % 2 == 0 ? 28 : 29, i);
        }
        for (int i = 0; i < 8; i++) {
            x.said(4, 77);
        }
        Check.due("costs", x.roster(2, -1), 7);
        Check.due("whose day", x.roster(2, 6), 1);
        Check.due("seen", x.about(4), 6);
        Check.due("from", x.from(false), 1 << 28);
        Check.due("said", x.about(5), 8);
        Check.due("whose", x.whose(), 1);
        Check.due("the text", x.about(2), -1);
        Check.due("texts", x.about(1), 1);
        Check.due("needs", x.thirsty(true), 195);
        Check.due("steps", x.about(3), 0);
    }

    private static void about() {
        Doc.promise(46, "0 PEOPLE, 1 TEXTS, 2 THE TEXT (NONE), 3 STEPS that can be taken back, 4 SEEN, 5 SAID, 6 bytes of the tape.");
        RainOnTheOne x = new RainOnTheOne();
        for (int what = 0; what <= 6; what++) {
            Check.due("at first, " + what, x.about(what), what == 2 ? -1 : 0);
        }
        for (int i = 0; i < 8; i++) {
            x.person(0, false);
            x.seen(0, 0);
            x.said(0, 0);
            Check.text(x, "");
        }
        x.by(3);
        x.minute(31);
        Check.tape(x, " ".repeat(300));
        int[] most = {5, 4, 3, 30, 6, 8, 300};
        for (int what = 0; what <= 6; what++) {
            Check.due("at most, " + what, x.about(what), most[what]);
        }
        allAtOnce();
    }

    private static void notAbout() {
        Doc.promise(46, "-2 for others.");
        RainOnTheOne x = Made.busy();
        for (int what : Made.beside(0, 6)) {
            Check.due("no such " + what, x.about(what), -2);
        }
    }
}
