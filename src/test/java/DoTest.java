/** Promises 10 to 16: walking, hats, draws, minutes, plays, years, and taking back. */
public final class DoTest {
    public static void main(String[] args) {
        walks();
        hats();
        draws();
        minutes();
        showersWay();
        laws();
        fullOfWater();
        lastMinute();
        plays();
        playsThatEnd();
        years();
        undo();
        undoAndTold();
        Check.finish();
    }

    private static void walks() {
        RainOnTheOne x = new RainOnTheOne();
        Check.due("nobody", x.walk(0, 1), false);
        x.person(5, false);
        Check.due("not round the edge", x.walk(0, 6), false);
        Check.due("not where it is", x.walk(0, 5), false);
        Check.due("not so far", x.walk(0, 3), false);
        Check.due("not across", x.walk(0, 10), false);
        Check.due("no cell", x.walk(0, -1), false);
        Check.due("no cell", x.walk(0, 30), false);
        Check.due("nobody", x.walk(1, 4), false);
        Check.due("nobody", x.walk(-1, 4), false);
        Check.due("no step is done", x.about(3), 0);
        x.shed(11, true);
        Check.due("into a shed", x.walk(0, 11), false);
        Check.due("left", x.walk(0, 4), true);
        Check.due("below", x.walk(0, 10), true);
        Check.due("above", x.walk(0, 4), true);
        Check.due("right", x.walk(0, 5), true);
        Check.due("cell", x.of(0, 0), 5);
        Check.due("steps of doing", x.about(3), 4);
        Check.due("it takes no minute", x.is(0), 0);
        x.person(6, false);
        Check.due("not round the edge", x.walk(1, 5), false);
        Check.due("into the shower's", x.walk(1, 0), true);
    }

    private static void hats() {
        RainOnTheOne x = new RainOnTheOne();
        Check.due("nobody", x.hat(0, true), false);
        x.person(5, false);
        Check.due("it is so", x.hat(0, false), false);
        Check.due("no step", x.about(3), 0);
        Check.due("without", x.hat(0, true), true);
        Check.due("it is so", x.hat(0, true), false);
        Check.due("without", x.of(0, 1), 1);
        Check.due("not any more", x.hat(0, false), true);
        Check.due("with", x.of(0, 1), 0);
        Check.due("nobody", x.hat(1, true), false);
        Check.due("nobody", x.hat(-1, true), false);
        Check.due("steps", x.about(3), 2);
    }

    private static void draws() {
        RainOnTheOne x = new RainOnTheOne();
        Check.due("nobody", x.draw(), -1);
        Check.due("x stays", x.is(2), 241);
        Check.due("no step", x.about(3), 0);
        x.person(5, true);
        x.person(6, false);
        x.person(7, true);
        // 241 mod 3 is 1, 25727 mod 3 is 2, 15654 mod 3 is 0
        Check.due("draw", x.draw(), 1);
        Check.due("x", x.is(2), 25727);
        Check.due("with", x.of(0, 1), 0);
        Check.due("without", x.of(1, 1), 1);
        Check.due("with", x.of(2, 1), 0);
        Check.due("draw", x.draw(), 2);
        Check.due("x", x.is(2), 15654);
        Check.due("draw", x.draw(), 0);
        Check.due("x", x.is(2), 17463);
        Check.due("without", x.of(0, 1), 1);
        Check.due("with", x.of(2, 1), 0);
        Check.due("steps", x.about(3), 3);
    }

    private static void minutes() {
        RainOnTheOne x = new RainOnTheOne();
        Check.due("0", x.minute(0), -1);
        Check.due("61", x.minute(61), -1);
        Check.due("-1", x.minute(-1), -1);
        x.person(0, true);
        x.person(1, true);
        x.person(2, false);
        // 0 is wanted most (99), then 1 (98)
        Check.due("goal", x.is(3), 0);
        Check.due("rains", x.minute(2), 2);
        Check.due("minute", x.is(0), 2);
        Check.due("wet", x.of(0, 2), 6);
        Check.due("been", x.of(0, 3), 2);
        Check.due("water", x.ofCell(0, 1), 6);
        x.hat(0, false);
        Check.due("goal", x.is(3), 1);
        Check.due("it goes", x.minute(1), 0);
        Check.due("shower", x.is(1), 1);
        Check.due("dries", x.of(0, 2), 5);
        Check.due("rains", x.minute(1), 1);
        Check.due("dries", x.of(0, 2), 4);
        Check.due("wet", x.of(1, 2), 3);
        Check.due("written down", x.book(-1, 0), 3);
        Check.due("minute", x.book(2, 0), 3);
        Check.due("person", x.book(2, 1), 1);
        Check.due("cell", x.book(2, 2), 1);
        Check.due("water", x.book(2, 3), 3);
        x.hat(1, false);
        Check.due("nobody", x.is(3), -1);
        // 241 mod 4 is 1: left; 25727 mod 4 is 3: below; 15654 mod 4 is 2: right; 17463: below
        Check.due("drawn", x.minute(1), 0);
        Check.due("left", x.is(1), 0);
        Check.due("x", x.is(2), 25727);
        x.minute(1);
        Check.due("below", x.is(1), 6);
        x.shed(7, true);
        x.minute(1);
        Check.due("right is a shed: stays", x.is(1), 6);
        Check.due("x", x.is(2), 17463);
        x.minute(1);
        Check.due("below", x.is(1), 12);
        Check.due("dries to 0", x.of(0, 2), 0);
        x.minute(1);
        Check.due("0 at least", x.of(0, 2), 0);
    }

    private static void showersWay() {
        RainOnTheOne x = new RainOnTheOne();
        x.person(14, true);
        // of like ways the lowest next cell: 1, 2, 8, 14
        int[] way = {1, 2, 8, 14};
        for (int c : way) {
            Check.due("it goes", x.minute(1), 0);
            Check.due("shower", x.is(1), c);
        }
        Check.due("it rains", x.minute(1), 1);
        x.undo();
        x.undo();
        x.undo();
        x.undo();
        x.shed(2, true);
        // from 1 by 7, 8
        x.minute(1);
        Check.due("shower", x.is(1), 7);
        x.shed(13, true);
        x.shed(15, true);
        x.shed(20, true);
        x.shed(8, true);
        Check.due("none it can come to", x.is(3), -1);
        x.person(12, true);
        Check.due("one it can come to", x.is(3), 1);
        x.person(6, true);
        x.person(12, true);
        Check.due("the nearest", x.is(3), 2);
        x.hat(2, false);
        Check.due("of like ones the lowest", x.is(3), 1);
    }

    private static void laws() {
        RainOnTheOne x = new RainOnTheOne();
        x.person(1, true);
        x.person(29, true);
        x.person(28, true);
        x.by(Check.text(x, "wants if who=0 then 0-5 else 5 end;pours wet+been+minute-9;"));
        Check.due("wants most, of like ones the lowest", x.is(3), 1);
        Check.due("nine on the way", x.minute(9), 0);
        Check.due("there", x.is(1), 29);
        // pours 0 + 0 + 9 - 9, then 3 + 1 + 10 - 9, then 6 + 2 + 11 - 9
        Check.due("rains", x.minute(3), 3);
        Check.due("came", x.book(0, 3), 0);
        Check.due("came", x.book(1, 3), 5);
        Check.due("came, 9 at most", x.book(2, 3), 9);
        Check.due("water", x.ofCell(29, 1), 14);
    }

    private static void fullOfWater() {
        RainOnTheOne x = new RainOnTheOne();
        x.person(0, true);
        Check.due("rains", x.minute(60), 60);
        Check.due("water", x.ofCell(0, 1), 99);
        Check.due("wet", x.of(0, 2), 99);
        Check.due("been", x.of(0, 3), 60);
        Check.due("book", x.book(-1, 0), 30);
        Check.due("eldest", x.book(0, 0), 30);
        Check.due("came", x.book(2, 3), 3);
        Check.due("came", x.book(3, 3), 0);
        Check.due("latest", x.book(29, 0), 59);
        Check.due("none such", x.book(30, 0), -2);
        Check.due("ledger", x.ledger(0), 9);
        for (int i = 0; i < 15; i++) {
            x.minute(60);
        }
        Check.due("been", x.of(0, 3), 960);
        x.minute(39);
        Check.due("been", x.of(0, 3), 999);
        x.minute(2);
        Check.due("been, 999 at most", x.of(0, 3), 999);
        x.undo();
        x.undo();
        x.undo();
        Check.due("been", x.of(0, 3), 998);
        RainOnTheOne y = new RainOnTheOne();
        y.person(0, true);
        y.by(Check.text(y, "pours 8;"));
        y.minute(13);
        Check.due("at most till it is 99", y.ofCell(0, 1), 99);
        Check.due("came", y.book(11, 3), 8);
        Check.due("came", y.book(12, 3), 3);
    }

    private static void lastMinute() {
        RainOnTheOne x = Made.late(9960);
        int before = x.is(2);
        Check.due("beyond 9999", x.minute(40), -1);
        Check.due("nothing is done", x.is(0), 9960);
        Check.due("nothing is done", x.is(2), before);
        Check.due("till 9999", x.minute(39), 0);
        Check.due("minute", x.is(0), 9999);
        Check.due("beyond", x.minute(1), -1);
        x.person(x.is(1), true);
        Check.due("none can pass", x.when(0), -1);
        Check.due("none can pass", x.foretold(60, 1, 0), 0);
        x.undo();
        Check.due("minute", x.is(0), 9998);
        Check.due("years", x.years(0, 40), 9999);
        Check.due("years", x.years(7, 40), 9999);
        x.undo();
        x.undo();
        x.walk(0, x.is(1));
        int at = x.of(0, 0);
        Check.due("one can pass", x.foretold(60, 2, at), at == x.is(1) ? 3 : 0);
    }

    private static void plays() {
        RainOnTheOne x = new RainOnTheOne();
        Check.due("no such", x.played(0), -2);
        Check.text(x, "wants 1;person 3;field 7 of 2;shed 9;walk 0 to 2;hat 0;bare 0;draw;minute 4;");
        Check.due("no such", x.played(1), -2);
        Check.due("no such", x.played(-1), -2);
        Check.due("played", x.played(0), -1);
        Check.due("it does not rule by that", x.about(2), -1);
        Check.due("without", x.of(0, 1), 1);
        Check.due("cell", x.of(0, 0), 2);
        Check.due("need", x.ofCell(2, 0), 7);
        Check.due("no need", x.ofCell(7, 0), 0);
        Check.due("shed", x.ofCell(9, 2), 1);
        Check.due("minute", x.is(0), 4);
        Check.due("x", x.is(2), 25727);
        Check.due("rains", x.book(-1, 0), 2);
        Check.due("each is a step", x.about(3), 8);
        Check.due("again", x.played(0), 3);
    }

    private static void playsThatEnd() {
        ends("draw;", 0);
        ends("hat 0;", 0);
        ends("wants 1;pours 2;walk 0 to 1;", 2);
        ends("person 1;walk 0 to 3;", 1);
        ends("person 1;bare 0;", 1);
        ends("person 1;hat 0;hat 0;", 2);
        ends("person 1;shed 1;", 1);
        ends("shed 0;", 0);
        ends("shed 1;shed 1;", 1);
        ends("shed 1;person 1;", 1);
        ends("person 1;person 1;person 1;person 1;person 1;person 1;minute 1;", 5);
        ends("person 1;walk 1 to 2;", 1);
        ends("minute 60;field 0 of 0;field 0 of 0;", -1);
        RainOnTheOne x = Made.late(9990);
        Check.text(x, "pours 1;minute 5;minute 5;draw;");
        Check.due("those that can pass do", x.played(0), 2);
        Check.due("minute", x.is(0), 9999);
        x.undo();
        Check.due("one by one", x.is(0), 9998);
        Check.due("those that can pass do", x.played(0), 1);
        Check.due("minute", x.is(0), 9999);
        Check.due("none can pass", x.played(0), 1);
        x = Made.late(9990);
        Check.text(x, "minute 9;");
        Check.due("just enough", x.played(0), -1);
        Check.due("minute", x.is(0), 9999);
    }

    private static void ends(String text, int clause) {
        RainOnTheOne x = new RainOnTheOne();
        Check.due("text " + text, Check.text(x, text), 0);
        Check.due("played " + text, x.played(0), clause);
    }

    private static void years() {
        RainOnTheOne x = new RainOnTheOne();
        Check.due("seed below", x.years(-1, 1), -1);
        Check.due("seed above", x.years(10000, 1), -1);
        Check.due("n below", x.years(0, 0), -1);
        Check.due("n above", x.years(0, 41), -1);
        Check.due("nothing is done", x.about(3), 0);
        // 241 mod 6 is 1, nobody walks; 25727 mod 6 is 5: a minute, drawn by 15654: right
        Check.due("years", x.years(0, 2), 1);
        Check.due("shower", x.is(1), 1);
        Check.due("x", x.is(2), 17463);
        Check.due("one step", x.about(3), 1);
        Check.due("undo", x.undo(), 0);
        Check.due("shower", x.is(1), 0);
        Check.due("x", x.is(2), 241);
        Check.due("minute", x.is(0), 0);
        x.person(14, true);
        // 241 / 6 mod 4 is 0: above
        Check.due("years", x.years(0, 1), 0);
        Check.due("walks above", x.of(0, 0), 8);
        Check.due("x", x.is(2), 25727);
        x.undo();
        Check.due("cell", x.of(0, 0), 14);
        x.shed(8, true);
        Check.due("years", x.years(0, 1), 0);
        Check.due("can't be", x.of(0, 0), 14);
        Check.due("a step all the same", x.about(3), 1);
        // 9999 * 2 + 241 is 20239: mod 6 is 1, / 6 mod 4 is 1: left
        Check.due("years", x.years(9999, 1), 0);
        Check.due("walks left", x.of(0, 0), 13);
        Check.due("x", x.is(2), (20239 * 487 + 373) % 30671);
        yearOfHat();
        firstYears();
    }

    /** Looks for a seed whose second draw is of the kind 2, both ways. */
    private static void yearOfHat() {
        boolean[] met = new boolean[2];
        for (int seed = 0; seed < 400; seed++) {
            int first = seed * 2 + 241;
            int second = (first * 487 + 373) % 30671;
            if (first % 6 < 2 && second % 6 == 2) {
                RainOnTheOne x = new RainOnTheOne();
                x.person(14, seed % 4 < 2);
                x.years(seed, 2);
                Check.due("without, seed " + seed, x.of(0, 1), second % 4 > 0 ? 1 : 0);
                met[second % 4 > 0 ? 1 : 0] = true;
            }
        }
        Check.due("both are met", met[0] && met[1], true);
    }

    /** The first draw of each seed, of the middle and of the corners, is as its number says. */
    private static void firstYears() {
        int[] starts = {0, 5, 14, 24, 29};
        for (int seed = 0; seed < 48; seed++) {
            int first = seed * 2 + 241;
            for (int start : starts) {
                RainOnTheOne x = new RainOnTheOne();
                x.person(start, false);
                int row = start / 6 + new int[] {-1, 0, 0, 1}[first / 6 % 4];
                int column = start % 6 + new int[] {0, -1, 1, 0}[first / 6 % 4];
                boolean goes = first % 6 < 2 && row >= 0 && row < 5 && column >= 0 && column < 6;
                Check.due("minute", x.years(seed, 1), first % 6 >= 3 ? 1 : 0);
                Check.due("cell, seed " + seed, x.of(0, 0), goes ? row * 6 + column : start);
            }
        }
    }

    private static void undo() {
        RainOnTheOne x = new RainOnTheOne();
        Check.due("none", x.undo(), -1);
        x.minute(60);
        Check.due("30 at most", x.about(3), 30);
        for (int i = 29; i >= 0; i--) {
            Check.due("undo", x.undo(), i);
            Check.due("minute", x.is(0), 30 + i);
        }
        Check.due("none", x.undo(), -1);
        Check.due("minute", x.is(0), 30);
        x = new RainOnTheOne();
        x.person(1, true);
        x.field(1, 9);
        x.minute(2);
        x.shed(2, true);
        x.field(1, 7);
        Check.due("water", x.ofCell(1, 1), 3);
        Check.due("undo", x.undo(), 1);
        Check.due("water", x.ofCell(1, 1), 0);
        Check.due("wet", x.of(0, 2), 0);
        Check.due("been", x.of(0, 3), 0);
        Check.due("book", x.book(-1, 0), 0);
        Check.due("shower", x.is(1), 1);
        Check.due("sheds stay", x.ofCell(2, 2), 1);
        Check.due("needs stay", x.ofCell(1, 0), 7);
        x.shed(0, true);
        Check.due("undo", x.undo(), 0);
        Check.due("the shower is in a shed", x.is(1), 0);
        Check.due("it goes for nobody", x.is(3), -1);
        Check.due("no shed any more, but it is there", x.shed(0, false), false);
        // 241 mod 4 is 1: left is no cell; 25727 mod 4 is 3: below
        x.minute(2);
        Check.due("out of it", x.is(1), 6);
    }

    private static void undoAndTold() {
        RainOnTheOne x = new RainOnTheOne();
        x.person(0, true);
        x.minute(1);
        x.person(1, true);
        x.minute(1);
        x.walk(1, 2);
        x.person(29, false);
        x.hat(1, false);
        Check.due("undo", x.undo(), 3);
        Check.due("undo", x.undo(), 2);
        Check.due("cell", x.of(1, 0), 1);
        Check.due("undo", x.undo(), 1);
        Check.due("undo", x.undo(), 0);
        Check.due("people", x.about(0), 3);
        Check.due("as told", x.of(1, 0), 1);
        Check.due("as told", x.of(1, 1), 1);
        Check.due("as told", x.of(2, 0), 29);
        Check.due("as told", x.of(2, 1), 0);
        Check.due("wet", x.of(0, 2), 0);
        // a full book comes back too
        x.minute(60);
        x.years(3, 40);
        Check.due("undo", x.undo(), 29);
        Check.due("book", x.book(29, 0), 59);
        Check.due("undo", x.undo(), 28);
        Check.due("eldest again", x.book(0, 0), 29);
    }
}
