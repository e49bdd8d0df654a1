/** Part I of the document, the terms: a test for each of its sentences. */
final class EdgesOfTerms {
    private EdgesOfTerms() {
    }

    static void run() {
        cells();
        shedsNeedWater();
        people();
        wetAndBeen();
        showerMinuteX();
        book();
        steps();
        walked();
        without();
        drawn();
        wanted();
        rains();
        goesOn();
        nobody();
        dries();
        lastMinute();
        takenBack();
        asAheadOfIt();
        toldSince();
        inAShed();
    }

    private static boolean side(int a, int b) {
        int rows = Math.abs(a / 6 - b / 6);
        int columns = Math.abs(a % 6 - b % 6);
        return rows + columns == 1;
    }

    private static void cells() {
        Doc.part("CELLS 0 .. 29: six in a row, five rows (CELL 6 * row + column), side by side to the four sides;");
        for (int a = 0; a < 30; a++) {
            RainOnTheOne x = new RainOnTheOne();
            for (int b = 0; b < 30; b++) {
                int off = Math.abs(a / 6 - b / 6) + Math.abs(a % 6 - b % 6);
                Check.due("steps " + a + " " + b, x.steps(a, b), off);
                Check.due("side by side " + a + " " + b, x.cut(a, b) == -1, off <= 1);
            }
            for (int b = 0; b < 30; b++) {
                RainOnTheOne y = new RainOnTheOne();
                y.person(a, false);
                Check.due("walk from " + a + " to " + b, y.walk(0, b), side(a, b));
            }
            Check.due("above the first", x.ofCell(-1, 0), -1);
            Check.due("below the last", x.ofCell(30, 0), -1);
        }
    }

    private static void shedsNeedWater() {
        Doc.part("SHEDS (told; at first none),");
        Doc.part("NEED 0 .. 99 (told; at first 0),");
        Doc.part("WATER 0 .. 99 (at first 0).");
        RainOnTheOne x = new RainOnTheOne();
        for (int c = 0; c < 30; c++) {
            Check.due("shed " + c, x.ofCell(c, 2), 0);
            Check.due("need " + c, x.ofCell(c, 0), 0);
            Check.due("water " + c, x.ofCell(c, 1), 0);
        }
        Check.due("need -1", x.field(0, -1), false);
        Check.due("need 0", x.field(0, 0), true);
        Check.due("need 99", x.field(0, 99), true);
        Check.due("need 100", x.field(0, 100), false);
        x.person(0, true);
        x.by(Check.text(x, "pours 9;"));
        x.minute(11);
        Check.due("water 99", x.ofCell(0, 1), 99);
        Check.due("just enough", x.thirsty(false), 0);
        x.minute(1);
        Check.due("no more", x.ofCell(0, 1), 99);
    }

    private static void people() {
        Doc.part("PEOPLE 0 .. 4 (told one by one):");
        RainOnTheOne x = new RainOnTheOne();
        for (int p = 0; p < 5; p++) {
            Check.due("not yet", x.of(p, 0), -1);
            Check.due("told", x.person(p, true), p);
            Check.due("now", x.of(p, 0), p);
        }
        Check.due("no more", x.person(5, true), -1);
        Doc.part("in a CELL that is no SHED,");
        x = Made.only(29);
        Check.due("a shed", x.person(28, true), -1);
        Check.due("none", x.person(29, true), 0);
        Check.due("the shower's", x.person(0, true), 1);
        Doc.part("WITHOUT or not (as told),");
        x = new RainOnTheOne();
        x.person(3, true);
        x.person(3, false);
        Check.due("without", x.of(0, 1), 1);
        Check.due("not", x.of(1, 1), 0);
    }

    private static void wetAndBeen() {
        Doc.part("WET 0 .. 99,");
        RainOnTheOne x = new RainOnTheOne();
        x.person(0, true);
        Check.due("at first", x.of(0, 2), 0);
        x.minute(33);
        Check.due("by 33 rains", x.of(0, 2), 99);
        x.minute(1);
        Check.due("by 34", x.of(0, 2), 99);
        x.hat(0, false);
        x.minute(1);
        Check.due("one less", x.of(0, 2), 98);
        Doc.part("BEEN (how often it rained on it) 0 .. 999 (at first 0 each).");
        x = new RainOnTheOne();
        x.person(0, true);
        x.person(0, true);
        Check.due("at first", x.of(0, 3), 0);
        Check.due("at first", x.of(1, 3), 0);
        for (int i = 0; i < 16; i++) {
            x.minute(60);
        }
        x.minute(38);
        Check.due("by 998 rains", x.of(0, 3), 998);
        x.minute(1);
        Check.due("by 999", x.of(0, 3), 999);
        x.minute(1);
        Check.due("by 1000", x.of(0, 3), 999);
        Check.due("it is written down yet", x.book(29, 0), 999);
        Check.due("the other one", x.of(1, 3), 0);
    }

    private static void showerMinuteX() {
        Doc.part("SHOWER: in a CELL (at first 0).");
        RainOnTheOne x = new RainOnTheOne();
        Check.due("at first", x.is(1), 0);
        for (int i = 0; i < 150; i++) {
            int was = x.is(1);
            x.minute(1);
            int now = x.is(1);
            Check.due("a cell, by side", now >= 0 && now < 30 && (was == now || side(was, now)), true);
        }
        Doc.part("MINUTE 0 .. 9999 (at first 0).");
        Check.due("at first", new RainOnTheOne().is(0), 0);
        x = Made.late(9998);
        Check.due("one more", x.minute(1), 0);
        Check.due("the last", x.is(0), 9999);
        Check.due("no more", x.minute(1), -1);
        Check.due("nor by years", x.years(1, 40), 9999);
        Doc.part("X: at first 241.");
        Check.due("at first", new RainOnTheOne().is(2), 241);
    }

    private static void book() {
        Doc.part("BOOK (the latest 30 rains): MINUTE, PERSON, CELL, WATER that came.");
        RainOnTheOne x = new RainOnTheOne();
        for (int p = 0; p < 5; p++) {
            x.person(0, p == 4);
        }
        x.by(Check.text(x, "pours minute+1;"));
        for (int rains = 1; rains <= 33; rains++) {
            x.minute(1);
            int kept = Math.min(rains, 30);
            Check.due("how many", x.book(-1, 0), kept);
            Check.due("the eldest", x.book(0, 0), rains - kept);
            Check.due("the latest", x.book(kept - 1, 0), rains - 1);
        }
        for (int i = 0; i < 30; i++) {
            int minute = i + 3;
            // 1 .. 8 are 36, seven nines 99
            int came = minute < 8 ? minute + 1 : minute < 15 ? 9 : 0;
            Check.due("minute", x.book(i, 0), minute);
            Check.due("person", x.book(i, 1), 4);
            Check.due("cell", x.book(i, 2), 0);
            Check.due("water of " + minute, x.book(i, 3), came);
        }
        RainOnTheOne late = Made.late(9998);
        int at = late.is(1);
        late.person(at, true);
        late.minute(1);
        Check.due("the last minute there is", late.book(0, 0), 9998);
        Check.due("cell", late.book(0, 2), at);
        RainOnTheOne y = new RainOnTheOne();
        y.person(29, true);
        y.minute(10);
        Check.due("the last cell", y.book(0, 2), 29);
    }

    private static void steps() {
        Doc.part("STEPS of two CELLS: the fewest from one to the other side by side through no SHED (both no SHEDS); none.");
        RainOnTheOne x = new RainOnTheOne();
        Check.due("of one", x.steps(14, 14), 0);
        x.shed(8, true);
        Check.due("round the shed", x.steps(7, 9), 4);
        x.shed(2, true);
        x.shed(14, true);
        x.shed(20, true);
        Check.due("round the wall", x.steps(7, 9), 8);
        x.shed(26, true);
        Check.due("none", x.steps(7, 9), -1);
        Check.due("of a shed", x.steps(8, 8), -1);
        Check.due("to a shed", x.steps(7, 8), -1);
        Check.due("from a shed", x.steps(8, 7), -1);
        x.shed(26, false);
        Check.due("again", x.steps(9, 7), 8);
    }

    private static void walked() {
        Doc.part("WALKED: a PERSON to a CELL beside its own one, no SHED.");
        RainOnTheOne x = new RainOnTheOne();
        x.person(14, false);
        int[] sides = {8, 13, 15, 20};
        for (int c : sides) {
            x.shed(c, true);
            Check.due("into a shed", x.walk(0, c), false);
        }
        Check.due("two off, over a shed", x.walk(0, 16), false);
        for (int c : sides) {
            x.shed(c, false);
            Check.due("none any more", x.walk(0, c), true);
            Check.due("back", x.walk(0, 14), true);
        }
        Check.due("not to its own", x.walk(0, 14), false);
        // in a SHED by taking back, it may walk out, but not in again
        x.walk(0, 15);
        x.shed(14, true);
        x.undo();
        Check.due("in a shed", x.ofCell(14, 2) + x.of(0, 0), 15);
        Check.due("not to its own", x.walk(0, 14), false);
        Check.due("out", x.walk(0, 8), true);
        Check.due("in again", x.walk(0, 14), false);
    }

    private static void without() {
        Doc.part("WITHOUT: a PERSON is so, or not any more.");
        RainOnTheOne x = new RainOnTheOne();
        x.person(1, true);
        Check.due("it is so", x.hat(0, true), false);
        Check.due("not any more", x.hat(0, false), true);
        Check.due("it is so", x.hat(0, false), false);
        Check.due("it goes for nobody", x.is(3), -1);
        Check.due("again", x.hat(0, true), true);
        Check.due("it goes for it", x.is(3), 0);
    }

    private static void drawn() {
        Doc.part("DRAWN: a draw by how many PEOPLE there are (X mod that, X being (X * 487 + 373) mod 30671 then): that PERSON is WITHOUT, all others are not.");
        RainOnTheOne x = Made.with(5);
        int was = 241;
        boolean round = false;
        for (int i = 0; i < 60; i++) {
            Check.due("x", x.is(2), was);
            Check.due("drawn", x.draw(), was % 5);
            int without = 0;
            for (int p = 0; p < 5; p++) {
                without += x.of(p, 1) << p;
            }
            Check.due("it alone", without, 1 << was % 5);
            round |= was * 487 + 373 >= 30671;
            was = (was * 487 + 373) % 30671;
        }
        Check.due("it goes round", round, true);
        RainOnTheOne one = new RainOnTheOne();
        one.person(7, true);
        Check.due("the only one", one.draw(), 0);
        Check.due("it is so yet", one.of(0, 1), 1);
        Check.due("a STEP all the same", one.about(3), 1);
        Check.due("nobody", new RainOnTheOne().draw(), -1);
    }

    private static void wanted() {
        Doc.part("A MINUTE: SHOWER goes for the PERSON WITHOUT to whom there are STEPS from it of whom wants says most; of like ones the lowest.");
        RainOnTheOne x = new RainOnTheOne();
        x.person(29, false);
        x.person(28, true);
        x.person(23, true);
        Check.due("of like ones the lowest", x.is(3), 1);
        x.walk(1, 27);
        Check.due("most", x.is(3), 1);
        x.walk(1, 26);
        x.walk(2, 22);
        Check.due("most", x.is(3), 1);
        x.hat(1, false);
        Check.due("who is without", x.is(3), 2);
        x.hat(2, false);
        Check.due("nobody", x.is(3), -1);
        x.hat(0, true);
        Check.due("the first", x.is(3), 0);
        x.hat(1, true);
        x.hat(2, true);
        x.by(Check.text(x, "wants -9999;"));
        Check.due("all -999", x.is(3), 0);
        x.by(Check.text(x, "wants who*9999;"));
        Check.due("999 is the most: of like ones", x.is(3), 1);
        x.by(Check.text(x, "wants who-2;"));
        Check.due("most", x.is(3), 2);
        x.shed(21, true);
        x.shed(16, true);
        x.shed(23, true);
        x.shed(28, true);
        Check.due("no STEPS to the last", x.is(3), 1);
        Check.due("it says most yet", x.of(2, 4), 0);
    }

    private static void rains() {
        Doc.part("Is it in its CELL: it rains: what pours says (at most till WATER is 99) comes to WATER there, WET of that one is 3 more (99 at most), BEEN one more (999 at most); written down.");
        RainOnTheOne x = new RainOnTheOne();
        x.person(0, true);
        x.person(0, true);
        x.by(Check.text(x, "pours 7;"));
        Check.due("it rains in all", x.minute(14), 14);
        Check.due("water", x.ofCell(0, 1), 98);
        Check.due("wet", x.of(0, 2), 42);
        Check.due("been", x.of(0, 3), 14);
        Check.due("on one alone", x.of(1, 2) + x.of(1, 3), 0);
        Check.due("rains", x.minute(1), 1);
        Check.due("till 99", x.ofCell(0, 1), 99);
        Check.due("one came", x.book(14, 3), 1);
        Check.due("rains", x.minute(1), 1);
        Check.due("99 yet", x.ofCell(0, 1), 99);
        Check.due("none came", x.book(15, 3), 0);
        Check.due("written down", x.book(-1, 0), 16);
        Check.due("shower stays", x.is(1), 0);
        RainOnTheOne dry = new RainOnTheOne();
        dry.person(0, true);
        dry.by(Check.text(dry, "pours 0;"));
        Check.due("it rains, though nothing pours", dry.minute(1), 1);
        Check.due("wet", dry.of(0, 2), 3);
        Check.due("been", dry.of(0, 3), 1);
        Check.due("water", dry.ofCell(0, 1), 0);
        Check.due("written down", dry.book(0, 3), 0);
        fullyWet();
    }

    /** 97 and 98 are 99 by a rain; a law is asked as it is ahead of the rain. */
    private static void fullyWet() {
        for (int less = 1; less <= 2; less++) {
            RainOnTheOne x = new RainOnTheOne();
            x.person(0, true);
            x.person(0, true);
            x.minute(33);
            // by the other one's rain it is one less each
            x.by(Check.text(x, "wants who;"));
            x.minute(less);
            Check.due("wet", x.of(0, 2), 99 - less);
            x.by(-1);
            x.minute(1);
            Check.due("99 at most", x.of(0, 2), 99);
        }
        RainOnTheOne y = new RainOnTheOne();
        y.person(0, true);
        y.by(Check.text(y, "pours wet+been+minute+water;"));
        y.minute(1);
        Check.due("as ahead of the rain", y.ofCell(0, 1), 0);
        y.minute(1);
        Check.due("3 + 1 + 1", y.ofCell(0, 1), 5);
    }

    private static void goesOn() {
        Doc.part("Else SHOWER goes one CELL on, by fewest STEPS, to the lowest such CELL.");
        RainOnTheOne x = new RainOnTheOne();
        x.person(29, true);
        int[] way = {1, 2, 3, 4, 5, 11, 17, 23, 29};
        for (int c : way) {
            Check.due("it does not rain", x.minute(1), 0);
            Check.due("on the way", x.is(1), c);
        }
        RainOnTheOne up = new RainOnTheOne();
        up.person(29, true);
        up.minute(9);
        up.hat(0, false);
        up.person(0, true);
        int[] back = {23, 17, 11, 5, 4, 3, 2, 1, 0};
        for (int c : back) {
            up.minute(1);
            Check.due("on the way back", up.is(1), c);
        }
        RainOnTheOne round = new RainOnTheOne();
        round.person(2, true);
        round.shed(1, true);
        int[] around = {6, 7, 8, 2};
        for (int c : around) {
            round.minute(1);
            Check.due("round the shed", round.is(1), c);
        }
    }

    private static void nobody() {
        Doc.part("Is there nobody: a draw by 4: it goes above, left, right, below, if that is a CELL and no SHED, else stays.");
        RainOnTheOne x = new RainOnTheOne();
        x.shed(7, true);
        x.shed(14, true);
        x.person(22, false);
        int drawn = 241;
        int at = 0;
        int[] met = new int[8];
        for (int i = 0; i < 160; i++) {
            int side = drawn % 4;
            int row = at / 6 + (side == 0 ? -1 : side == 3 ? 1 : 0);
            int column = at % 6 + (side == 1 ? -1 : side == 2 ? 1 : 0);
            int to = 6 * row + column;
            boolean goes = row >= 0 && row < 5 && column >= 0 && column < 6 && to != 7 && to != 14;
            met[side * 2 + (goes ? 1 : 0)]++;
            at = goes ? to : at;
            drawn = (drawn * 487 + 373) % 30671;
            Check.due("no rain", x.minute(1), 0);
            Check.due("shower", x.is(1), at);
            Check.due("x", x.is(2), drawn);
        }
        for (int i = 0; i < 8; i++) {
            Check.due("side " + i / 2 + (i % 2 == 1 ? ", it goes" : ", it stays"), met[i] > 0, true);
        }
        Check.due("nothing else draws", Made.only().minute(60), 0);
        RainOnTheOne shut = Made.only();
        shut.minute(60);
        Check.due("shut in it stays", shut.is(1), 0);
    }

    private static void dries() {
        Doc.part("Then WET of each on whom it didn't rain is one less (0 at least).");
        RainOnTheOne x = new RainOnTheOne();
        x.person(0, true);
        x.person(0, false);
        x.person(5, false);
        x.minute(1);
        Check.due("no less than 0", x.of(1, 2) + x.of(2, 2), 0);
        x.hat(0, false);
        x.hat(1, true);
        for (int wet = 2; wet >= 0; wet--) {
            x.minute(1);
            Check.due("one less by another's rain", x.of(0, 2), wet);
        }
        Check.due("wet", x.of(1, 2), 9);
        x.minute(1);
        Check.due("0 at least", x.of(0, 2), 0);
        x.walk(1, 1);
        x.minute(1);
        Check.due("one less while it goes on", x.of(1, 2), 11);
        x.hat(1, false);
        x.minute(1);
        Check.due("one less while it goes for nobody", x.of(1, 2), 10);
    }

    private static void lastMinute() {
        Doc.part("MINUTE is one more (at 9999 none can pass).");
        RainOnTheOne x = Made.late(9997);
        Check.due("three can't", x.minute(3), -1);
        Check.due("two can", x.minute(2), 0);
        Check.due("minute", x.is(0), 9999);
        int at = x.is(1);
        int drawn = x.is(2);
        Check.due("none can", x.minute(1), -1);
        Check.due("shower", x.is(1), at);
        Check.due("x", x.is(2), drawn);
        x.person(at, true);
        Check.due("foretold", x.foretold(1, 1, 0), 0);
        Check.due("when", x.when(0), -1);
        Check.text(x, "minute 1;");
        Check.due("played", x.played(0), 0);
        Check.due("wet", x.of(0, 2), 0);
    }

    private static void takenBack() {
        Doc.part("STEPS (of doing): WALKED, WITHOUT, DRAWN, a MINUTE (each), YEARS (see V): the latest 30 can be taken back, the latest first");
        RainOnTheOne x = new RainOnTheOne();
        x.person(14, true);
        x.walk(0, 15);
        x.hat(0, false);
        x.draw();
        x.minute(2);
        x.years(0, 40);
        Check.due("six", x.about(3), 6);
        int[] yet = {5, 4, 3, 2, 1, 0, -1};
        for (int n : yet) {
            Check.due("undo", x.undo(), n);
        }
        Check.due("where it was told", x.of(0, 0), 14);
        for (int i = 0; i < 100; i++) {
            x.walk(0, i % 2 == 0 ? 15 : 14);
            Check.due("thirty at most", x.about(3), Math.min(i + 1, 30));
        }
        for (int i = 99; i >= 70; i--) {
            Check.due("undo", x.undo(), i - 70);
            Check.due("the latest first", x.of(0, 0), i % 2 == 0 ? 14 : 15);
        }
        Check.due("none", x.undo(), -1);
        x.minute(60);
        Check.due("each MINUTE", x.about(3), 30);
        x.undo();
        Check.due("one of them", x.is(0), 59);
    }

    private static void asAheadOfIt() {
        Doc.part("(PEOPLE, WATER, SHOWER, MINUTE, X, BOOK are as ahead of it;");
        RainOnTheOne x = Made.busy();
        String before = Made.world(x);
        x.walk(0, 14);
        x.undo();
        Check.due("walked", x.of(0, 0), 8);
        x.years(123, 40);
        x.undo();
        Check.due("years", Made.world(x), before);
        RainOnTheOne y = Made.busy();
        y.draw();
        y.undo();
        y.hat(1, true);
        y.undo();
        y.minute(20);
        for (int i = 0; i < 20; i++) {
            y.undo();
        }
        Check.due("draw, hat, minutes", Made.world(y), before);
        RainOnTheOne full = new RainOnTheOne();
        full.person(0, true);
        full.minute(31);
        Check.due("the eldest", full.book(0, 0), 1);
        full.undo();
        Check.due("the eldest is there again", full.book(0, 0), 0);
        Check.due("thirty", full.book(-1, 0), 30);
        full.undo();
        Check.due("one less", full.book(-1, 0), 29);
        Check.due("water", full.ofCell(0, 1), 87);
    }

    private static void toldSince() {
        Doc.part("PEOPLE told since are as told;");
        RainOnTheOne x = new RainOnTheOne();
        x.minute(1);
        x.person(3, true);
        x.undo();
        Check.due("it is there yet", x.about(0), 1);
        Check.due("its cell", x.of(0, 0), 3);
        x = new RainOnTheOne();
        x.person(20, false);
        x.hat(0, true);
        x.person(1, false);
        x.hat(1, true);
        x.person(2, true);
        x.walk(2, 3);
        x.minute(9);
        for (int i = 0; i < 12; i++) {
            x.undo();
        }
        int[][] due = {{20, 0}, {1, 0}, {2, 1}};
        for (int p = 0; p < 3; p++) {
            Check.due("cell of " + p, x.of(p, 0), due[p][0]);
            Check.due("without " + p, x.of(p, 1), due[p][1]);
            Check.due("wet " + p, x.of(p, 2), 0);
            Check.due("been " + p, x.of(p, 3), 0);
        }
        Check.due("all taken back", x.undo(), -1);
        RainOnTheOne crowd = new RainOnTheOne();
        crowd.minute(1);
        for (int p = 0; p < 5; p++) {
            crowd.person(29, p == 4);
        }
        crowd.minute(12);
        for (int i = 0; i < 13; i++) {
            crowd.undo();
        }
        Check.due("five yet", crowd.about(0), 5);
        Check.due("the last as told", crowd.of(4, 1) + crowd.of(4, 2) + crowd.of(4, 3), 1);
    }

    private static void inAShed() {
        Doc.part("SHEDS, NEEDS stay: one can be in a SHED by that alone; there are STEPS from and to none there).");
        RainOnTheOne x = new RainOnTheOne();
        x.person(1, true);
        x.walk(0, 2);
        x.shed(1, true);
        x.field(1, 9);
        x.undo();
        Check.due("the shed stays", x.ofCell(1, 2), 1);
        Check.due("the need stays", x.ofCell(1, 0), 9);
        Check.due("it is in the shed", x.ofCell(1, 3), 1);
        Check.due("none to it", x.steps(0, 1), -1);
        Check.due("none from it", x.steps(1, 2), -1);
        Check.due("nor from it to it", x.steps(1, 1), -1);
        Check.due("SHOWER goes for nobody", x.is(3), -1);
        Check.due("wants says 99 less 99", x.of(0, 4), 0);
        Check.due("none is near", x.near(2), -1);
        Check.due("never", x.when(0), -1);
        RainOnTheOne y = new RainOnTheOne();
        y.person(1, true);
        y.minute(1);
        y.person(1, true);
        y.walk(0, 7);
        y.walk(1, 7);
        y.minute(1);
        Check.due("shower", y.is(1), 7);
        y.shed(1, true);
        y.undo();
        y.undo();
        y.undo();
        Check.due("both are in the shed", y.is(1) + y.of(0, 0), 2);
        Check.due("it goes for nobody all the same", y.is(3), -1);
        // 241 mod 4 is 1: left
        Check.due("no rain in it", y.minute(1), 0);
        Check.due("out by a draw", y.is(1), 0);
        Check.due("the other two keep it a shed", y.shed(1, false), false);
    }
}
