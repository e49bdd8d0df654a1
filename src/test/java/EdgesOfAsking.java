/** Promises 17 to 29, a test for each of their sentences: its edges, and what is refused. */
final class EdgesOfAsking {
    private EdgesOfAsking() {
    }

    static void run() {
        of();
        ofNobody();
        ofCell();
        ofNoCell();
        is();
        isNot();
        book();
        noBook();
        foretold();
        notForetold();
        when();
        never();
        steps();
        noSteps();
        way();
        noWay();
        caught();
        notCaught();
        flee();
        noFlee();
        tour();
        noTour();
        cut();
        noCut();
        narrows();
    }

    private static void of() {
        Doc.promise(17, "Of a PERSON: 0 its CELL, 1 whether it is WITHOUT (1, 0), 2 WET, 3 BEEN, 4 wants now, 5 pours now.");
        RainOnTheOne x = new RainOnTheOne();
        x.person(0, true);
        for (int p = 1; p < 4; p++) {
            x.person(7, false);
        }
        x.person(29, false);
        x.minute(33);
        int[] first = {0, 1, 99, 33, 99, 3};
        int[] last = {29, 0, 0, 0, 90, 3};
        for (int what = 0; what <= 5; what++) {
            Check.due("of the first, " + what, x.of(0, what), first[what]);
            Check.due("of the last, " + what, x.of(4, what), last[what]);
        }
        x.hat(0, false);
        x.hat(4, true);
        x.minute(11);
        Check.due("been, the first", x.of(0, 3), 33);
        Check.due("been, the last", x.of(4, 3), 2);
        Check.due("wet, the last", x.of(4, 2), 6);
        Check.due("wet, the first", x.of(0, 2), 88);
        x.by(Check.text(x, "wants 0-5000+who;pours who*5-11;"));
        Check.due("wants now", x.of(0, 4), -999);
        Check.due("wants now", x.of(4, 4), -999);
        Check.due("pours now", x.of(0, 5), 0);
        Check.due("pours now", x.of(4, 5), 9);
        Check.due("pours now", x.of(3, 5), 4);
    }

    private static void ofNobody() {
        Doc.promise(17, "NONE for others.");
        RainOnTheOne x = Made.busy();
        for (int what = 0; what <= 5; what++) {
            for (int p : Made.beside(0, 2)) {
                Check.due("nobody " + p, x.of(p, what), -1);
            }
        }
        for (int what : Made.beside(0, 5)) {
            Check.due("no such " + what, x.of(0, what), -1);
        }
        Check.due("of nobody at all", new RainOnTheOne().of(0, 0), -1);
        Check.due("of a sixth", Made.with(5).of(5, 0), -1);
    }

    private static void ofCell() {
        Doc.promise(18, "Of a CELL: 0 NEED, 1 WATER, 2 whether it is a SHED (1, 0), 3 PEOPLE there (bits).");
        RainOnTheOne x = new RainOnTheOne();
        for (int p = 0; p < 5; p++) {
            x.person(0, p == 4);
        }
        x.field(0, 99);
        x.field(29, 1);
        x.shed(29, true);
        x.minute(33);
        int[] first = {99, 99, 0, 31};
        int[] last = {1, 0, 1, 0};
        for (int what = 0; what <= 3; what++) {
            Check.due("of the first, " + what, x.ofCell(0, what), first[what]);
            Check.due("of the last, " + what, x.ofCell(29, what), last[what]);
        }
        x.walk(4, 1);
        Check.due("four there", x.ofCell(0, 3), 15);
        Check.due("the fifth there", x.ofCell(1, 3), 16);
    }

    private static void ofNoCell() {
        Doc.promise(18, "NONE for others.");
        RainOnTheOne x = Made.busy();
        for (int what = 0; what <= 3; what++) {
            for (int c : Made.beside(0, 29)) {
                Check.due("no cell " + c, x.ofCell(c, what), -1);
            }
        }
        for (int what : Made.beside(0, 3)) {
            Check.due("no such " + what, x.ofCell(8, what), -1);
        }
    }

    private static void is() {
        Doc.promise(19, "0 MINUTE, 1 where SHOWER is, 2 X, 3 whom it goes for now (NONE: nobody).");
        RainOnTheOne x = new RainOnTheOne();
        Check.due("minute", x.is(0), 0);
        Check.due("shower", x.is(1), 0);
        Check.due("x", x.is(2), 241);
        Check.due("nobody is there", x.is(3), -1);
        x.person(29, false);
        Check.due("nobody is without", x.is(3), -1);
        x.person(29, true);
        Check.due("the second", x.is(3), 1);
        x.minute(9);
        Check.due("shower", x.is(1), 29);
        Check.due("minute", x.is(0), 9);
        Check.due("no draw", x.is(2), 241);
        RainOnTheOne y = new RainOnTheOne();
        y.person(29, true);
        y.shed(23, true);
        y.shed(28, true);
        Check.due("nobody to whom there are STEPS", y.is(3), -1);
        RainOnTheOne five = Made.with(5);
        five.hat(0, true);
        five.minute(1);
        five.hat(0, false);
        five.minute(2);
        Check.due("wet by one", five.of(0, 2), 1);
        Check.due("nobody of five is without", five.is(3), -1);
    }

    private static void isNot() {
        Doc.promise(19, "-2 for others.");
        RainOnTheOne x = Made.busy();
        for (int what : Made.beside(0, 3)) {
            Check.due("no such " + what, x.is(what), -2);
        }
    }

    private static void book() {
        Doc.promise(20, "BOOK: how many (i NONE); the i-th, from the eldest on: 0 MINUTE, 1 PERSON, 2 CELL, 3 WATER that came.");
        RainOnTheOne x = new RainOnTheOne();
        Check.due("none", x.book(-1, 0), 0);
        x.person(1, false);
        x.person(1, true);
        x.by(Check.text(x, "pours 9;"));
        x.minute(2);
        Check.due("one", x.book(-1, 3), 1);
        int[] one = {1, 1, 1, 9};
        for (int what = 0; what <= 3; what++) {
            Check.due("the eldest, " + what, x.book(0, what), one[what]);
        }
        x.minute(29);
        Check.due("thirty", x.book(-1, 0), 30);
        Check.due("the eldest", x.book(0, 0), 1);
        Check.due("the latest", x.book(29, 0), 30);
        Check.due("none came, for all that it rained", x.book(29, 3), 0);
        x.hat(0, true);
        x.minute(1);
        Check.due("thirty yet", x.book(-1, 0), 30);
        Check.due("the eldest is gone", x.book(0, 0), 2);
        Check.due("the latest", x.book(29, 0), 31);
        Check.due("of like ones the lowest", x.book(29, 1), 0);
    }

    private static void noBook() {
        Doc.promise(20, "-2 if there is none such, and for others.");
        RainOnTheOne x = new RainOnTheOne();
        Check.due("none yet", x.book(0, 0), -2);
        x.person(0, true);
        x.minute(3);
        for (int what = 0; what <= 3; what++) {
            for (int i : Made.besideNone(2)) {
                Check.due("no such " + i, x.book(i, what), -2);
            }
        }
        for (int what : Made.beside(0, 3)) {
            Check.due("no such " + what, x.book(0, what), -2);
        }
        x.minute(50);
        Check.due("a thirty-first", x.book(30, 0), -2);
        x.back();
        Check.due("none any more", x.book(0, 0), -2);
    }

    private static void foretold() {
        Doc.promise(21, "FORETOLD: 0 where SHOWER is, 1 WET of a PERSON, 2 WATER of a CELL.");
        RainOnTheOne x = new RainOnTheOne();
        for (int p = 0; p < 4; p++) {
            x.person(0, false);
        }
        x.person(29, true);
        Check.due("behind one", x.foretold(1, 0, 0), 1);
        Check.due("which does not matter", x.foretold(9, 0, -7), 29);
        Check.due("on the way", x.foretold(9, 1, 4), 0);
        Check.due("the first rain", x.foretold(10, 1, 4), 3);
        Check.due("the first rain", x.foretold(10, 2, 29), 3);
        Check.due("behind sixty", x.foretold(60, 1, 4), 99);
        Check.due("behind sixty", x.foretold(60, 2, 29), 99);
        Check.due("of the first", x.foretold(60, 1, 0), 0);
        Check.due("of the first", x.foretold(60, 2, 0), 0);
        Check.due("nothing is done", x.about(3), 0);
    }

    private static void notForetold() {
        Doc.promise(21, "NONE for others.");
        RainOnTheOne x = Made.busy();
        String before = Made.state(x);
        for (int n : Made.beside(1, 60)) {
            Check.due("n " + n, x.foretold(n, 0, 0), -1);
        }
        for (int what : Made.beside(0, 2)) {
            Check.due("what " + what, x.foretold(1, what, 0), -1);
        }
        for (int p : Made.beside(0, 2)) {
            Check.due("nobody " + p, x.foretold(1, 1, p), -1);
        }
        for (int c : Made.beside(0, 29)) {
            Check.due("no cell " + c, x.foretold(1, 2, c), -1);
        }
        Check.due("n 0", x.foretold(0, 2, 8), -1);
        Check.due("nothing is done", Made.state(x), before);
    }

    private static void when() {
        Doc.promise(22, "WHEN.");
        RainOnTheOne x = new RainOnTheOne();
        x.person(0, true);
        x.person(29, true);
        Check.due("at once", x.when(0), 1);
        x.hat(0, false);
        Check.due("behind nine", x.when(1), 10);
        x.by(Check.text(x, "wants if minute<50 then 0-who else who end;"));
        x.hat(0, true);
        Check.due("it goes when 50 have passed", x.when(1), 60);
        Check.due("nothing is done", x.is(0), 0);
    }

    private static void never() {
        Doc.promise(22, "NONE: none, and for others.");
        RainOnTheOne x = new RainOnTheOne();
        x.person(0, true);
        x.person(29, true);
        x.by(Check.text(x, "wants if minute<51 then 0-who else who end;"));
        Check.due("a MINUTE too late", x.when(1), -1);
        x.minute(1);
        Check.due("no more", x.when(1), 60);
        x.hat(1, false);
        Check.due("it is not without", x.when(1), -1);
        for (int p : Made.beside(0, 1)) {
            Check.due("nobody " + p, x.when(p), -1);
        }
        RainOnTheOne late = Made.late(9990);
        int at = late.is(1);
        late.person(at == 29 ? 0 : 29, true);
        int way = late.steps(at, late.of(0, 0));
        int passed = 9999 - 9990;
        Check.due("9999 comes ahead of it", late.when(0), way + 1 <= passed ? way + 1 : -1);
        late.minute(9);
        Check.due("none can pass", late.when(0), -1);
    }

    private static void steps() {
        Doc.promise(23, "STEPS.");
        RainOnTheOne x = new RainOnTheOne();
        Check.due("the farthest", x.steps(0, 29), 9);
        Check.due("the farthest", x.steps(24, 5), 9);
        Check.due("its own", x.steps(0, 0), 0);
        Check.due("its own", x.steps(29, 29), 0);
        Check.due("side by side", x.steps(28, 29), 1);
        Check.due("not round the edge", x.steps(5, 6), 6);
        Check.due("not round the edge", x.steps(24, 23), 6);
        // a path of all rows, to and fro: 0 .. 5, 11, 17 .. 12, 18, 24 .. 29
        RainOnTheOne path = Made.only(1, 2, 3, 4, 5, 11, 17, 16, 15, 14, 13, 12, 18, 24, 25, 26, 27, 28, 29);
        Check.due("a long one", path.steps(0, 29), 19);
        Check.due("and back", path.steps(29, 0), 19);
    }

    private static void noSteps() {
        Doc.promise(23, "NONE: none, and for others.");
        RainOnTheOne x = Made.only(1, 29);
        Check.due("none", x.steps(0, 29), -1);
        Check.due("none", x.steps(29, 1), -1);
        Check.due("from a shed", x.steps(2, 1), -1);
        Check.due("to a shed", x.steps(1, 2), -1);
        Check.due("a shed's own", x.steps(2, 2), -1);
        for (int c : Made.beside(0, 29)) {
            Check.due("no cell " + c, x.steps(c, 0), -1);
            Check.due("no cell " + c, x.steps(0, c), -1);
            Check.due("no cell " + c, x.steps(c, c), -1);
        }
    }

    private static void way() {
        Doc.promise(24, "A WAY: the i-th CELL behind the first.");
        RainOnTheOne x = new RainOnTheOne();
        Check.due("side by side", x.way(28, 29, 0), 29);
        Check.due("the first", x.way(0, 29, 0), 1);
        Check.due("the last", x.way(0, 29, 8), 29);
        Check.due("back", x.way(29, 0, 0), 23);
        Check.due("back", x.way(29, 0, 8), 0);
    }

    private static void noWay() {
        Doc.promise(24, "-2: none, there is none such, and for others.");
        RainOnTheOne x = new RainOnTheOne();
        x.shed(1, true);
        Check.due("its own has none", x.way(0, 0, 0), -2);
        Check.due("its own has none", x.way(29, 29, -1), -2);
        for (int i : Made.beside(0, 8)) {
            Check.due("no such " + i, x.way(0, 29, i), -2);
        }
        for (int c : Made.beside(0, 29)) {
            Check.due("no cell " + c, x.way(c, 0, 0), -2);
            Check.due("no cell " + c, x.way(0, c, 0), -2);
        }
        Check.due("from a shed", x.way(1, 2, 0), -2);
        Check.due("to a shed", x.way(2, 1, 0), -2);
        x.shed(6, true);
        Check.due("none", x.way(0, 29, 0), -2);
    }

    private static void caught() {
        Doc.promise(25, "CAUGHT.");
        RainOnTheOne x = Made.only(1, 2, 3, 4, 5);
        Check.due("in one cell", x.caught(5, 5, 1), 0);
        Check.due("in one cell", x.caught(0, 0, 2), 0);
        Check.due("at the end", x.caught(0, 1, 1), 1);
        Check.due("from end to end", x.caught(0, 5, 1), 5);
        Check.due("from end to end", x.caught(0, 5, 2), 3);
        Check.due("alone with it", Made.only(1).caught(1, 0, 1), 1);
    }

    private static void notCaught() {
        Doc.promise(25, "NONE: never, and for others (CELLS that are no SHEDS; 1, 2).");
        RainOnTheOne x = new RainOnTheOne();
        Check.due("never", x.caught(7, 29, 1), -1);
        for (int c : Made.beside(0, 29)) {
            Check.due("no cell " + c, x.caught(c, 0, 2), -1);
            Check.due("no cell " + c, x.caught(0, c, 2), -1);
            Check.due("no cell " + c, x.caught(c, c, 2), -1);
        }
        for (int speed : Made.beside(1, 2)) {
            Check.due("speed " + speed, x.caught(0, 0, speed), -1);
        }
        x.shed(3, true);
        Check.due("from a shed", x.caught(3, 0, 2), -1);
        Check.due("from a shed", x.caught(0, 3, 2), -1);
        Check.due("from a shed", x.caught(3, 3, 2), -1);
        Check.due("parted", Made.only(29).caught(29, 0, 2), -1);
    }

    private static void flee() {
        Doc.promise(26, "FLEE: the CELL.");
        RainOnTheOne x = Made.only(1, 2, 3, 4, 5);
        Check.due("0 turns: its own", x.flee(4, 4, 1), 4);
        Check.due("0 turns: its own", x.flee(5, 5, 2), 5);
        Check.due("away", x.flee(1, 5, 1), 0);
        Check.due("it stays", x.flee(0, 5, 1), 0);
        Check.due("of like ones the lowest", x.flee(5, 4, 1), 4);
        Check.due("never: the lowest", Made.only(28, 29).flee(29, 0, 2), 28);
    }

    private static void noFlee() {
        Doc.promise(26, "NONE for others.");
        RainOnTheOne x = new RainOnTheOne();
        x.shed(3, true);
        for (int c : Made.beside(0, 29)) {
            Check.due("no cell " + c, x.flee(c, 0, 1), -1);
            Check.due("no cell " + c, x.flee(0, c, 1), -1);
            Check.due("no cell " + c, x.flee(c, c, 1), -1);
        }
        for (int speed : Made.beside(1, 2)) {
            Check.due("speed " + speed, x.flee(0, 29, speed), -1);
            Check.due("speed " + speed, x.flee(0, 0, speed), -1);
        }
        Check.due("from a shed", x.flee(3, 0, 1), -1);
        Check.due("from a shed", x.flee(0, 3, 1), -1);
        Check.due("from a shed", x.flee(3, 3, 1), -1);
    }

    private static void tour() {
        Doc.promise(27, "A TOUR: STEPS in all (i NONE), the i-th CELL.");
        RainOnTheOne x = new RainOnTheOne();
        Check.due("to its own", x.tour(29, 1 << 29, -1), 0);
        Check.due("to its own", x.tour(29, 1 << 29, 0), 29);
        Check.due("to the first", x.tour(29, 1, -1), 9);
        Check.due("to the first", x.tour(29, 1, 0), 0);
        int five = 0b111110;
        Check.due("five", x.tour(0, five, -1), 5);
        Check.due("the first of five", x.tour(0, five, 0), 1);
        Check.due("the last of five", x.tour(0, five, 4), 5);
    }

    private static void noTour() {
        Doc.promise(27, "-2: none, there is none such, and for others.");
        RainOnTheOne x = new RainOnTheOne();
        for (int i : Made.besideNone(1)) {
            Check.due("no such " + i, x.tour(0, 6, i), -2);
        }
        for (int c : Made.beside(0, 29)) {
            Check.due("no cell " + c, x.tour(c, 2, -1), -2);
        }
        Check.due("no cells", x.tour(0, 0, -1), -2);
        Check.due("six", x.tour(0, 63, -1), -2);
        Check.due("beyond the cells", x.tour(0, 1 << 30, -1), -2);
        Check.due("beyond the cells", x.tour(0, 1 << 31, -1), -2);
        Check.due("beyond the cells", x.tour(0, 1 << 31 | 2, 0), -2);
        Check.due("all bits", x.tour(0, -1, -1), -2);
        x.shed(1, true);
        Check.due("a shed among them", x.tour(0, 6, -1), -2);
        Check.due("from a shed", x.tour(1, 4, -1), -2);
        x.shed(6, true);
        Check.due("none", x.tour(0, 4, -1), -2);
        Check.due("none", x.tour(0, 5, 0), -2);
        Check.due("its own yet", x.tour(0, 1, -1), 0);
    }

    private static void cut() {
        Doc.promise(28, "CUT.");
        RainOnTheOne x = new RainOnTheOne();
        Check.due("the most", x.cut(7, 22), 4);
        Check.due("corners", x.cut(5, 24), 2);
        Check.due("at the edge", x.cut(3, 21), 3);
        Check.due("none is needed", Made.only(29).cut(0, 29), 0);
        Check.due("one", Made.only(1, 2).cut(0, 2), 1);
    }

    private static void noCut() {
        Doc.promise(28, "NONE: there is none, and for others (SHEDS, like ones).");
        RainOnTheOne x = new RainOnTheOne();
        x.shed(3, true);
        Check.due("side by side", x.cut(0, 1), -1);
        Check.due("side by side", x.cut(23, 29), -1);
        Check.due("not side by side round the edge", x.cut(5, 6), 2);
        Check.due("a shed", x.cut(3, 29), -1);
        Check.due("a shed", x.cut(0, 3), -1);
        Check.due("like sheds", x.cut(3, 3), -1);
        Check.due("like ones", x.cut(0, 0), -1);
        Check.due("like ones", x.cut(29, 29), -1);
        for (int c : Made.beside(0, 29)) {
            Check.due("no cell " + c, x.cut(c, 0), -1);
            Check.due("no cell " + c, x.cut(0, c), -1);
        }
    }

    private static void narrows() {
        Doc.promise(29, "NARROWS (bits).");
        Check.due("open ground has none", new RainOnTheOne().narrows(), 0);
        Check.due("one cell alone", Made.only().narrows(), 0);
        Check.due("two", Made.only(1).narrows(), 0);
        Check.due("three", Made.only(1, 2).narrows(), 2);
        Check.due("the first cell", Made.only(1, 6).narrows(), 1);
        Check.due("the last cell", Made.only(28, 23, 29).narrows(), 1 << 29);
        // 5 and 6 are not side by side
        Check.due("not round the edge", Made.only(4, 5, 6, 7).narrows(), 1 << 6);
    }
}
