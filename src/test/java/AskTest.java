/** Promises 17 to 29: what is so, what comes, ways, fleeing, tours, what cuts off. */
public final class AskTest {
    public static void main(String[] args) {
        ofPeople();
        ofCells();
        isAndBook();
        foretold();
        ways();
        chases();
        chasesOfSpeedTwo();
        tours();
        cuts();
        narrows();
        Check.finish();
    }

    private static void ofPeople() {
        RainOnTheOne x = new RainOnTheOne();
        for (int what = 0; what < 6; what++) {
            Check.due("nobody", x.of(0, what), -1);
        }
        x.person(29, false);
        int[] due = {29, 0, 0, 0, 90, 3};
        for (int what = 0; what < 6; what++) {
            Check.due("of " + what, x.of(0, what), due[what]);
        }
        x.person(0, true);
        x.minute(2);
        Check.due("been", x.of(1, 3), 2);
        Check.due("wet", x.of(1, 2), 6);
        Check.due("been", x.of(0, 3), 0);
        Check.due("others", x.of(0, 6), -1);
        Check.due("others", x.of(0, -1), -1);
        Check.due("others", x.of(2, 0), -1);
        Check.due("others", x.of(-1, 0), -1);
        Check.due("asking changes nothing", x.about(3), 2);
    }

    private static void ofCells() {
        RainOnTheOne x = new RainOnTheOne();
        x.person(7, true);
        x.person(8, true);
        x.person(7, false);
        x.field(7, 12);
        x.shed(9, true);
        x.minute(3);
        Check.due("need", x.ofCell(7, 0), 12);
        Check.due("water", x.ofCell(7, 1), 3);
        Check.due("shed", x.ofCell(7, 2), 0);
        Check.due("people", x.ofCell(7, 3), 5);
        Check.due("people", x.ofCell(8, 3), 2);
        Check.due("shed", x.ofCell(9, 2), 1);
        Check.due("others", x.ofCell(7, 4), -1);
        Check.due("others", x.ofCell(7, -1), -1);
        Check.due("others", x.ofCell(-1, 0), -1);
        Check.due("others", x.ofCell(30, 0), -1);
    }

    private static void isAndBook() {
        RainOnTheOne x = new RainOnTheOne();
        Check.due("others", x.is(4), -2);
        Check.due("others", x.is(-1), -2);
        Check.due("none", x.book(0, 0), -2);
        Check.due("how many", x.book(-1, 9), 0);
        x.person(1, true);
        x.minute(3);
        Check.due("minute", x.is(0), 3);
        Check.due("shower", x.is(1), 1);
        Check.due("goal", x.is(3), 0);
        Check.due("how many", x.book(-1, -9), 2);
        int[] due = {2, 0, 1, 3};
        for (int what = 0; what < 4; what++) {
            Check.due("book", x.book(1, what), due[what]);
        }
        Check.due("others", x.book(1, 4), -2);
        Check.due("others", x.book(1, -1), -2);
        Check.due("none such", x.book(2, 0), -2);
        Check.due("others", x.book(-2, 0), -2);
    }

    private static void foretold() {
        RainOnTheOne x = new RainOnTheOne();
        x.person(2, true);
        x.person(3, false);
        Check.due("shower", x.foretold(1, 0, -5), 1);
        Check.due("shower", x.foretold(2, 0, 99), 2);
        Check.due("wet", x.foretold(2, 1, 0), 0);
        Check.due("wet", x.foretold(3, 1, 0), 3);
        Check.due("wet", x.foretold(60, 1, 0), 99);
        Check.due("water", x.foretold(4, 2, 2), 6);
        Check.due("water", x.foretold(60, 2, 2), 99);
        Check.due("no such person", x.foretold(4, 1, 2), -1);
        Check.due("no such person", x.foretold(4, 1, -1), -1);
        Check.due("no such cell", x.foretold(4, 2, 30), -1);
        Check.due("no such cell", x.foretold(4, 2, -1), -1);
        Check.due("others", x.foretold(4, 3, 0), -1);
        Check.due("others", x.foretold(4, -1, 0), -1);
        Check.due("others", x.foretold(0, 0, 0), -1);
        Check.due("others", x.foretold(61, 0, 0), -1);
        Check.due("when", x.when(0), 3);
        Check.due("never", x.when(1), -1);
        Check.due("others", x.when(2), -1);
        Check.due("others", x.when(-1), -1);
        Check.due("it changes nothing", x.is(0), 0);
        Check.due("it changes nothing", x.is(1), 0);
        Check.due("it changes nothing", x.of(0, 2), 0);
        Check.due("it changes nothing", x.about(3), 0);
        x.hat(0, false);
        // drawn by 241, 25727, 15654: stays, below, right
        Check.due("shower", x.foretold(3, 0, 0), 7);
        Check.due("it changes nothing", x.is(2), 241);
        // whom it wants goes round with wet: 0 first, then the other one
        x.hat(0, true);
        x.hat(1, true);
        x.by(Check.text(x, "wants -wet;"));
        Check.due("when", x.when(0), 3);
        Check.due("when", x.when(1), 5);
        Check.due("wet of another", x.foretold(5, 1, 1), 3);
        RainOnTheOne y = new RainOnTheOne();
        y.person(0, true);
        y.person(0, true);
        y.by(Check.text(y, "wants if minute<59 then -who else who end;"));
        Check.due("at last", y.when(1), 60);
        y.by(Check.text(y, "wants if minute<60 then -who else who end;"));
        Check.due("too late", y.when(1), -1);
    }

    private static void ways() {
        RainOnTheOne x = new RainOnTheOne();
        Check.due("steps", x.steps(0, 29), 9);
        Check.due("steps", x.steps(7, 7), 0);
        Check.due("others", x.steps(-1, 0), -1);
        Check.due("others", x.steps(0, 30), -1);
        Check.due("none such", x.way(7, 7, 0), -2);
        int[] way = {1, 2, 3, 4, 5, 11, 17, 23, 29};
        for (int i = 0; i < way.length; i++) {
            Check.due("way", x.way(0, 29, i), way[i]);
        }
        Check.due("none such", x.way(0, 29, 9), -2);
        Check.due("none such", x.way(0, 29, -1), -2);
        Check.due("others", x.way(0, 30, 0), -2);
        Check.due("others", x.way(-1, 3, 0), -2);
        // back by the lowest cells: up first
        int[] back = {23, 17, 11, 5, 4, 3, 2, 1, 0};
        for (int i = 0; i < back.length; i++) {
            Check.due("way", x.way(29, 0, i), back[i]);
        }
        x.shed(1, true);
        x.shed(6, true);
        Check.due("none", x.steps(0, 29), -1);
        Check.due("none", x.way(0, 29, 0), -2);
        Check.due("in a shed", x.steps(1, 1), -1);
        Check.due("to a shed", x.steps(2, 1), -1);
        Check.due("itself", x.steps(0, 0), 0);
    }

    private static void chases() {
        RainOnTheOne x = new RainOnTheOne();
        Check.due("in one cell", x.caught(8, 8, 1), 0);
        Check.due("its own", x.flee(8, 8, 1), 8);
        Check.due("never on open ground", x.caught(14, 0, 1), -1);
        Check.due("never", x.caught(0, 29, 1), -1);
        Check.due("others", x.caught(-1, 0, 1), -1);
        Check.due("others", x.caught(0, 30, 1), -1);
        Check.due("others", x.caught(1, 0, 0), -1);
        Check.due("others", x.caught(1, 0, 3), -1);
        Check.due("others", x.flee(1, 0, 3), -1);
        Check.due("others", x.flee(1, 0, 0), -1);
        Check.due("others", x.flee(30, 0, 1), -1);
        Check.due("others", x.flee(0, -1, 1), -1);
        x.shed(29, true);
        Check.due("a shed", x.caught(29, 0, 1), -1);
        Check.due("a shed", x.flee(0, 29, 1), -1);
        // a corridor 0 .. 5
        RainOnTheOne y = Made.only(1, 2, 3, 4, 5);
        Check.due("at the end, side by side", y.caught(5, 4, 1), 1);
        Check.due("of like ones the lowest, SHOWER's", y.flee(5, 4, 1), 4);
        Check.due("in between", y.caught(3, 2, 1), 3);
        Check.due("away", y.flee(3, 2, 1), 4);
        Check.due("the other side", y.caught(2, 3, 1), 3);
        Check.due("away", y.flee(2, 3, 1), 1);
        // it can't come there: never; the lowest of all it may go to
        RainOnTheOne z = Made.only(1, 7, 20, 21);
        Check.due("parted", z.caught(1, 20, 2), -1);
        Check.due("the lowest", z.flee(1, 20, 2), 0);
        Check.due("the lowest", z.flee(7, 20, 2), 1);
        // a ring of eight cells: round and round
        RainOnTheOne ring = Made.only(1, 2, 6, 8, 12, 13, 14);
        Check.due("never", ring.caught(14, 0, 1), -1);
        Check.due("of like ones the lowest", ring.flee(14, 0, 1), 8);
        Check.due("away from it", ring.flee(2, 0, 1), 2);
        Check.due("away from it", ring.flee(1, 0, 1), 2);
    }

    private static void chasesOfSpeedTwo() {
        RainOnTheOne y = Made.only(1, 2, 3, 4, 5);
        Check.due("near enough wherever it goes", y.caught(1, 0, 2), 1);
        Check.due("of like ones the lowest", y.flee(1, 0, 2), 0);
        // staying it is caught in the second turn; by 4 and 5 in the third
        Check.due("three off", y.caught(3, 0, 2), 3);
        Check.due("away", y.flee(3, 0, 2), 4);
        Check.due("five off", y.caught(5, 0, 2), 3);
        // a ring of eight: four off; it stays or goes, two steps a turn come up with it
        RainOnTheOne ring = Made.only(1, 2, 6, 8, 12, 13, 14);
        Check.due("caught", ring.caught(14, 0, 2) > 0, true);
        RainOnTheOne x = new RainOnTheOne();
        Check.due("two off", x.caught(0, 2, 2), 2);
    }

    private static void tours() {
        RainOnTheOne x = new RainOnTheOne();
        Check.due("one", x.tour(0, 1 << 29, -1), 9);
        Check.due("one", x.tour(0, 1 << 29, 0), 29);
        Check.due("none such", x.tour(0, 1 << 29, 1), -2);
        Check.due("none such", x.tour(0, 1 << 29, -2), -2);
        Check.due("its own", x.tour(7, 1 << 7, -1), 0);
        Check.due("its own", x.tour(7, 1 << 7, 0), 7);
        Check.due("its own first", x.tour(7, 1 << 7 | 1 << 6, 0), 7);
        Check.due("its own first", x.tour(7, 1 << 7 | 1 << 6, -1), 1);
        // 1 and 6 are alike from 7 to begin with: 1, 6 and 6, 1 are three each
        Check.due("of like ones", x.tour(7, 1 << 1 | 1 << 6, -1), 3);
        Check.due("the lowest first", x.tour(7, 1 << 1 | 1 << 6, 0), 1);
        Check.due("then the next", x.tour(7, 1 << 1 | 1 << 6, 1), 6);
        int five = 1 | 1 << 5 | 1 << 24 | 1 << 29 | 1 << 14;
        // itself, to a corner, round all four: 0 + 4 + 4 + 5 + 4
        int[] order = {14, 0, 24, 29, 5};
        Check.due("five", x.tour(14, five, -1), 17);
        for (int i = 0; i < 5; i++) {
            Check.due("five", x.tour(14, five, i), order[i]);
        }
        Check.due("too many", x.tour(14, five | 2, -1), -2);
        Check.due("none", x.tour(14, 0, -1), -2);
        Check.due("no cells", x.tour(14, 1 << 30, -1), -2);
        Check.due("no cells", x.tour(14, 1 << 31, -1), -2);
        Check.due("no cells", x.tour(14, -1, -1), -2);
        Check.due("others", x.tour(-1, 1, -1), -2);
        Check.due("others", x.tour(30, 1, -1), -2);
        x.shed(14, true);
        Check.due("from a shed", x.tour(14, 1, -1), -2);
        Check.due("to a shed", x.tour(0, 1 << 14 | 2, -1), -2);
        x.shed(23, true);
        x.shed(28, true);
        Check.due("cut off", x.tour(0, 1 << 29 | 2, -1), -2);
        Check.due("cut off", x.tour(0, 1 << 29 | 2, 0), -2);
        // in one row, from 8: to 7 first (1 + 4), not to 11 first (3 + 4)
        Check.due("row", x.tour(8, 1 << 7 | 1 << 11 | 1 << 9, -1), 5);
        Check.due("row", x.tour(8, 1 << 7 | 1 << 11 | 1 << 9, 0), 7);
        Check.due("row", x.tour(8, 1 << 7 | 1 << 11 | 1 << 9, 1), 9);
        Check.due("row", x.tour(8, 1 << 7 | 1 << 11 | 1 << 9, 2), 11);
    }

    private static void cuts() {
        RainOnTheOne x = new RainOnTheOne();
        Check.due("side by side", x.cut(0, 1), -1);
        Check.due("side by side", x.cut(7, 1), -1);
        Check.due("like ones", x.cut(7, 7), -1);
        Check.due("others", x.cut(-1, 7), -1);
        Check.due("others", x.cut(7, 30), -1);
        Check.due("corners", x.cut(0, 29), 2);
        Check.due("corner and middle", x.cut(14, 0), 2);
        Check.due("edge and middle", x.cut(2, 15), 3);
        Check.due("middles", x.cut(7, 21), 4);
        Check.due("middles", x.cut(7, 9), 4);
        x.shed(8, true);
        Check.due("middles", x.cut(7, 9), 3);
        x.shed(29, true);
        Check.due("a shed", x.cut(29, 0), -1);
        Check.due("a shed", x.cut(0, 29), -1);
        x.shed(1, true);
        Check.due("one is enough", x.cut(0, 28), 1);
        x.shed(6, true);
        Check.due("none now", x.cut(0, 28), 0);
        // a wall from above to below with gaps in it
        RainOnTheOne wall = new RainOnTheOne();
        int[] cells = {3, 27, 9, 21, 15};
        Check.due("no wall", wall.cut(13, 16), 4);
        for (int i = 0; i < cells.length; i++) {
            wall.shed(cells[i], true);
            Check.due("gaps left: " + (4 - i), wall.cut(13, 16), 4 - i);
            Check.due("the other way", wall.cut(16, 13), 4 - i);
        }
        // two cells left open in a wall from side to side
        RainOnTheOne pair = new RainOnTheOne();
        for (int c = 12; c < 16; c++) {
            pair.shed(c, true);
        }
        Check.due("two in the way", pair.cut(7, 20), 2);
        Check.due("two in the way", pair.cut(20, 7), 2);
        RainOnTheOne path = Made.only(1, 6, 12, 2);
        Check.due("the first cell", path.cut(1, 6), 1);
        Check.due("the first cell", path.cut(2, 12), 1);
    }

    private static void narrows() {
        RainOnTheOne x = new RainOnTheOne();
        Check.due("none", x.narrows(), 0);
        x.shed(1, true);
        Check.due("the corner's neighbour", x.narrows(), 1 << 6);
        x.shed(6, true);
        Check.due("0 is alone", x.narrows(), 0);
        RainOnTheOne two = Made.only(1, 2, 8, 20, 21, 22);
        Check.due("in two parts", two.narrows(), 1 << 1 | 1 << 2 | 1 << 21);
        RainOnTheOne ring = Made.only(1, 2, 6, 8, 12, 13, 14);
        Check.due("a ring has none", ring.narrows(), 0);
        ring = Made.only(1, 2, 6, 8, 12, 13, 14, 15);
        Check.due("a ring with a tail", ring.narrows(), 1 << 14);
        Check.due("the first cell", Made.only(1, 6).narrows(), 1);
        Check.due("the last cells", Made.only(22, 23, 29, 28, 27).narrows(), 1 << 28);
        Check.due("the last cell", Made.only(23, 29, 28).narrows(), 1 << 29);
        RainOnTheOne cross = Made.only(1, 2, 7, 12, 13, 14);
        Check.due("a bridge", cross.narrows(), 1 << 1 | 1 << 7 | 1 << 13);
    }
}
