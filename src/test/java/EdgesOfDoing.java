/** Promises 10 to 16, a test for each of their sentences: its edges, and what is refused. */
final class EdgesOfDoing {
    private EdgesOfDoing() {
    }

    static void run() {
        walk();
        noWalk();
        hat();
        noHat();
        draw();
        drawLeavesTheRest();
        noDraw();
        minute();
        noMinute();
        played();
        notPlayed();
        years();
        noYears();
        undo();
        noUndo();
    }

    private static void walk() {
        Doc.promise(10, "WALKED: true.");
        RainOnTheOne x = new RainOnTheOne();
        x.person(14, false);
        int[] round = {8, 9, 15, 14, 20, 19, 13, 14};
        for (int i = 0; i < round.length; i++) {
            Check.due("walk to " + round[i], x.walk(0, round[i]), true);
            Check.due("cell", x.of(0, 0), round[i]);
            Check.due("a STEP", x.about(3), i + 1);
        }
        Check.due("it takes no MINUTE", x.is(0), 0);
        RainOnTheOne y = new RainOnTheOne();
        y.person(1, true);
        y.person(0, true);
        y.person(28, true);
        Check.due("to where SHOWER and another is", y.walk(0, 0), true);
        Check.due("to the last CELL", y.walk(2, 29), true);
        Check.due("both there", y.ofCell(0, 3), 3);
    }

    private static void noWalk() {
        Doc.promise(10, "False, if it can't be, and for others.");
        RainOnTheOne x = Made.busy();
        String before = Made.state(x);
        for (int c : Made.beside(0, 29)) {
            Check.due("no cell " + c, x.walk(0, c), false);
        }
        for (int p : Made.beside(0, 2)) {
            Check.due("nobody " + p, x.walk(p, 9), false);
        }
        Check.due("its own", x.walk(0, 8), false);
        Check.due("two off", x.walk(0, 10), false);
        Check.due("across", x.walk(0, 15), false);
        Check.due("a shed", x.walk(0, 7), false);
        Check.due("a shed", x.walk(1, 27), false);
        Check.due("nothing is done", Made.state(x), before);
        int[] ends = {0, 5, 6, 11, 17, 18, 23, 24, 29};
        for (int at : ends) {
            RainOnTheOne y = new RainOnTheOne();
            y.person(at, false);
            boolean left = at % 6 == 0;
            Check.due("not round the edge from " + at, y.walk(0, left ? at - 1 : at + 1), false);
            Check.due("beyond the last row from " + at, at < 24 || !y.walk(0, at + 6), true);
            Check.due("beyond the first row from " + at, at > 5 || !y.walk(0, at - 6), true);
            Check.due("no STEP", y.about(3), 0);
        }
    }

    private static void hat() {
        Doc.promise(11, "WITHOUT, or not any more: true.");
        RainOnTheOne x = Made.with(5);
        for (int p = 0; p < 5; p += 4) {
            Check.due("without", x.hat(p, true), true);
            Check.due("it is so", x.of(p, 1), 1);
        }
        Check.due("the others not", x.of(1, 1) + x.of(2, 1) + x.of(3, 1), 0);
        Check.due("not any more", x.hat(4, false), true);
        Check.due("it is so", x.of(4, 1), 0);
        Check.due("STEPS", x.about(3), 3);
    }

    private static void noHat() {
        Doc.promise(11, "False, if it is so, and for others.");
        RainOnTheOne x = Made.busy();
        String before = Made.state(x);
        Check.due("it is without", x.hat(0, true), false);
        Check.due("it is not", x.hat(1, false), false);
        for (int p : Made.beside(0, 2)) {
            Check.due("nobody " + p, x.hat(p, true), false);
            Check.due("nobody " + p, x.hat(p, false), false);
        }
        Check.due("nothing is done", Made.state(x), before);
    }

    private static void draw() {
        Doc.promise(12, "DRAWN: the PERSON.");
        for (int people = 1; people <= 5; people++) {
            RainOnTheOne x = Made.with(people);
            int due = 241;
            for (int i = 1; i <= 20; i++) {
                int drawn = x.draw();
                Check.due("of " + people, drawn, due % people);
                due = (due * 487 + 373) % 30671;
                Check.due("x", x.is(2), due);
                Check.due("a STEP", x.about(3), i);
                for (int p = 0; p < people; p++) {
                    Check.due("without " + p, x.of(p, 1), p == drawn ? 1 : 0);
                }
            }
        }
    }

    /** One who gets wet and one far off, of five: a draw and an undo leave their other things alone. */
    private static void drawLeavesTheRest() {
        RainOnTheOne x = new RainOnTheOne();
        x.person(0, true);
        for (int p = 1; p < 5; p++) {
            x.person(29, false);
        }
        x.minute(2);
        String before = Made.world(x);
        x.draw();
        Check.due("wet", x.of(0, 2), 6);
        Check.due("its cell", x.of(4, 0), 29);
        x.undo();
        x.hat(0, false);
        x.undo();
        Check.due("without again", x.of(0, 1), 1);
        Check.due("as it was", Made.world(x), before);
    }

    private static void noDraw() {
        Doc.promise(12, "NONE: there is none.");
        RainOnTheOne x = new RainOnTheOne();
        Check.due("nobody", x.draw(), -1);
        Check.due("nothing is done", Made.state(x), Made.state(new RainOnTheOne()));
        RainOnTheOne y = Made.with(1);
        y.back();
        Check.due("nobody any more", y.draw(), -1);
        Check.due("x", y.is(2), 241);
    }

    private static void minute() {
        Doc.promise(13, "MINUTES pass (1 .. 60): how many it rained in.");
        RainOnTheOne x = new RainOnTheOne();
        Check.due("one, nobody is there", x.minute(1), 0);
        x = new RainOnTheOne();
        x.person(2, true);
        Check.due("one, on the way", x.minute(1), 0);
        Check.due("one, on the way", x.minute(1), 0);
        Check.due("one, it rains", x.minute(1), 1);
        x = new RainOnTheOne();
        x.person(29, true);
        Check.due("60, nine of them on the way", x.minute(60), 51);
        Check.due("minute", x.is(0), 60);
        Check.due("60", x.minute(60), 60);
        Check.due("59", x.minute(59), 59);
        Check.due("minute", x.is(0), 179);
    }

    private static void noMinute() {
        Doc.promise(13, "NONE for others, or beyond 9999 (nothing is done then).");
        RainOnTheOne x = Made.busy();
        String before = Made.state(x);
        for (int n : Made.beside(1, 60)) {
            Check.due("minute " + n, x.minute(n), -1);
        }
        Check.due("0", x.minute(0), -1);
        Check.due("nothing is done", Made.state(x), before);
        x = Made.late(9940);
        Check.due("60 would be 10000", x.minute(60), -1);
        Check.due("nothing is done", x.is(0), 9940);
        Check.due("59 are 9999", x.minute(59), 0);
        Check.due("minute", x.is(0), 9999);
        int drawn = x.is(2);
        Check.due("none can pass", x.minute(1), -1);
        Check.due("60", x.minute(60), -1);
        Check.due("minute", x.is(0), 9999);
        Check.due("x", x.is(2), drawn);
        x.undo();
        Check.due("one can", x.minute(2), -1);
        Check.due("one can", x.minute(1), 0);
    }

    private static void played() {
        Doc.promise(14, "PLAYED by a TEXT: NONE: all is done; else the number of the CLAUSE that can't be.");
        String[] all = {"", "wants 1;pours 1;", "person 0;person 29;walk 1 to 28;hat 1;bare 1;draw;",
            "shed 29;field 99 of 29;field 0 of 29;minute 60;"};
        for (String text : all) {
            RainOnTheOne x = new RainOnTheOne();
            Check.due("text " + text, Check.text(x, text), 0);
            Check.due("all of " + text, x.played(0), -1);
        }
        RainOnTheOne x = new RainOnTheOne();
        Check.text(x, "draw;");
        Check.text(x, "wants 1;shed 3;pours 1;" + "minute 1;".repeat(20) + "shed 3;");
        Check.due("the first", x.played(0), 0);
        Check.due("nothing is done", x.about(3), 0);
        Check.due("the 24th", x.played(1), 23);
        Check.due("what was done stays", x.is(0), 20);
        Check.due("each MINUTE is a STEP", x.about(3), 20);
        Check.due("again: the second", x.played(1), 1);
    }

    private static void notPlayed() {
        Doc.promise(14, "-2 for others.");
        RainOnTheOne x = Made.busy();
        String before = Made.state(x);
        for (int t : Made.beside(0, 1)) {
            Check.due("played " + t, x.played(t), -2);
        }
        Check.due("nothing is done", Made.state(x), before);
        RainOnTheOne y = new RainOnTheOne();
        Check.due("no text", y.played(0), -2);
        Check.text(y, "draw");
        Check.due("a FAULT is no text", y.played(0), -2);
    }

    private static void years() {
        Doc.promise(15, "YEARS: MINUTE.");
        RainOnTheOne x = new RainOnTheOne();
        x.minute(7);
        // the first draw of the SEED 0 is 241, 241 mod 6 is 1: no MINUTE
        Check.due("no minute", x.years(0, 1), 7);
        Check.due("x", x.is(2), (241 * 487 + 373) % 30671);
        // of the SEED 1 it is 243, 243 mod 6 is 3
        Check.due("a minute", x.years(1, 1), 8);
        Check.due("the greatest SEED", x.years(9999, 1), 8);
        Check.due("x", x.is(2), ((9999 * 2 + 241) * 487 + 373) % 30671);
        int minute = x.years(9999, 40);
        Check.due("minute", minute, x.is(0));
        Check.due("some have passed", minute > 8 && minute <= 48, true);
        Check.due("a STEP each", x.about(3), 11);
    }

    private static void noYears() {
        Doc.promise(15, "NONE for others.");
        RainOnTheOne x = Made.busy();
        String before = Made.state(x);
        for (int seed : Made.beside(0, 9999)) {
            Check.due("seed " + seed, x.years(seed, 1), -1);
        }
        for (int n : Made.beside(1, 40)) {
            Check.due("n " + n, x.years(0, n), -1);
        }
        Check.due("n 0", x.years(0, 0), -1);
        Check.due("nothing is done", Made.state(x), before);
    }

    private static void undo() {
        Doc.promise(16, "The latest STEP is taken back: how many can be yet.");
        RainOnTheOne x = Made.with(1);
        for (int i = 1; i <= 31; i++) {
            x.hat(0, i % 2 == 1);
        }
        Check.due("30 at most", x.about(3), 30);
        for (int yet = 29; yet >= 0; yet--) {
            Check.due("undo", x.undo(), yet);
            Check.due("yet", x.about(3), yet);
            Check.due("without", x.of(0, 1), yet % 2 == 0 ? 1 : 0);
        }
        Check.due("the eldest stays done", x.of(0, 1), 1);
        Check.due("anew", x.draw(), 0);
        Check.due("undo", x.undo(), 0);
    }

    private static void noUndo() {
        Doc.promise(16, "NONE: there is none.");
        RainOnTheOne x = new RainOnTheOne();
        Check.due("nothing was done", x.undo(), -1);
        x.person(4, true);
        x.shed(9, true);
        x.field(3, 3);
        x.by(Check.text(x, "wants 1;"));
        x.cost(0, 0, 1);
        x.seen(3, 3);
        x.said(0, 3);
        String before = Made.world(x);
        Check.due("what is told is no STEP", x.undo(), -1);
        Check.due("nothing is done", Made.world(x), before);
        x.minute(40);
        for (int i = 0; i < 30; i++) {
            x.undo();
        }
        Check.due("thirty are taken back", x.undo(), -1);
        Check.due("minute", x.is(0), 10);
    }
}
