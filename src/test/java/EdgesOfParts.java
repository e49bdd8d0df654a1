/** Parts III to V of the document: a test for each of their sentences. */
final class EdgesOfParts {
    private EdgesOfParts() {
    }

    static void run() {
        changesNothing();
        foretold();
        when();
        way();
        caught();
        caughtAsSoonAs();
        inHowManyTurns();
        flee();
        tour();
        cut();
        narrows();
        roster();
        leastCost();
        swapped();
        from();
        oneGoing();
        likely();
        days();
        whose();
        thirstyAndDriest();
        wettest();
        nearest();
        byTheBook();
        years();
        yearsWithoutPeople();
        image();
    }

    private static void changesNothing() {
        Doc.part("All that follows changes nothing.");
        RainOnTheOne x = Made.busy();
        String before = Made.state(x);
        x.foretold(60, 0, 0);
        x.when(0);
        x.steps(0, 29);
        x.way(0, 29, 3);
        x.caught(8, 0, 2);
        x.flee(8, 0, 1);
        x.tour(0, 0b111100, 2);
        x.cut(0, 29);
        x.narrows();
        x.roster(4, 3);
        x.swap(4, 0, 1);
        x.from(true);
        x.likely(10, 5, false);
        x.days(true);
        x.whose();
        x.thirsty(true);
        x.driest();
        x.wettest();
        x.near(29);
        x.ledger(-1);
        Check.due("nothing is done", Made.state(x), before);
    }

    private static void foretold() {
        Doc.part("FORETOLD behind n MINUTES (1 .. 60; those that can pass), nothing else being done: where SHOWER is, WET of a PERSON, WATER of a CELL.");
        int[] behind = {1, 2, 9, 10, 31, 59, 60};
        for (int n : behind) {
            RainOnTheOne x = Made.busy();
            RainOnTheOne y = Made.busy();
            y.minute(n);
            Check.due("shower behind " + n, x.foretold(n, 0, 0), y.is(1));
            for (int p = 0; p < 3; p++) {
                Check.due("wet behind " + n, x.foretold(n, 1, p), y.of(p, 2));
            }
            for (int c = 0; c < 30; c++) {
                Check.due("water behind " + n, x.foretold(n, 2, c), y.ofCell(c, 1));
            }
        }
        RainOnTheOne late = Made.late(9997);
        int at = late.is(1);
        late.person(at, true);
        Check.due("one", late.foretold(1, 2, at), 3);
        Check.due("two", late.foretold(2, 2, at), 6);
        Check.due("three: two can pass", late.foretold(3, 2, at), 6);
        Check.due("sixty: two can pass", late.foretold(60, 1, 0), 6);
        late.minute(2);
        Check.due("none can pass: as it is", late.foretold(60, 1, 0), 6);
        Check.due("none can pass: as it is", late.foretold(1, 0, 0), at);
    }

    private static void when() {
        Doc.part("WHEN: in how many MINUTES (1 .. 60) it rains on a PERSON first, nothing else being done; none.");
        RainOnTheOne x = new RainOnTheOne();
        x.person(0, true);
        x.person(0, true);
        Check.due("in one", x.when(0), 1);
        Check.due("never", x.when(1), -1);
        x.by(Check.text(x, "wants if minute=59 then who else 0-who end;"));
        Check.due("in sixty", x.when(1), 60);
        x.by(Check.text(x, "wants if minute=60 then who else 0-who end;"));
        Check.due("in 61: none", x.when(1), -1);
        x.minute(1);
        Check.due("in sixty by now", x.when(1), 60);
        x.by(Check.text(x, "wants if minute=2 or minute=5 then who else 0-who end;"));
        Check.due("first", x.when(1), 2);
        RainOnTheOne late = Made.late(9997);
        int at = late.is(1);
        late.person(at, true);
        late.person(at, true);
        late.by(Check.text(late, "wants if minute=9998 then who else 0-who end;"));
        Check.due("in the last there is", late.when(1), 2);
        late.minute(1);
        Check.due("in the last there is", late.when(1), 1);
        late.minute(1);
        Check.due("none can pass", late.when(0), -1);
    }

    private static void way() {
        Doc.part("A WAY: of fewest STEPS; of like ones the lowest next CELL, then the next, ...");
        RainOnTheOne x = new RainOnTheOne();
        int[][] ways = {{0, 7, 1, 7}, {7, 0, 1, 0}, {5, 10, 4, 10}, {10, 5, 4, 5}, {29, 22, 23, 22},
            {24, 19, 18, 19}, {14, 27, 15, 21, 27}, {27, 14, 21, 15, 14}};
        for (int[] way : ways) {
            for (int i = 2; i < way.length; i++) {
                Check.due("from " + way[0] + " to " + way[1], x.way(way[0], way[1], i - 2), way[i]);
            }
            Check.due("no more", x.way(way[0], way[1], way.length - 2), -2);
        }
        x.shed(2, true);
        // 1 leads on by 7 alone
        int[] round = {1, 7, 8, 9, 3};
        for (int i = 0; i < round.length; i++) {
            Check.due("round a shed", x.way(0, 3, i), round[i]);
        }
        // the lowest next CELL is not on a way of fewest
        RainOnTheOne y = new RainOnTheOne();
        y.shed(8, true);
        y.shed(7, true);
        y.shed(1, true);
        Check.due("above is not on it", y.way(6, 15, 0), 12);
    }

    private static void caught() {
        Doc.part("CAUGHT: one flees from a CELL, SHOWER (in a CELL) goes after it, neither into SHEDS, by turns: it stays or goes one CELL, then SHOWER as many as speed (1, 2), or fewer;");
        RainOnTheOne row = Made.only(1, 2, 3, 4, 5);
        for (int from = 1; from <= 5; from++) {
            // it goes to the end and stays there; in the first turn SHOWER is one nearer at most
            Check.due("by one, from " + from, row.caught(from, 0, 1), 5);
            Check.due("by two, from " + from, row.caught(from, 0, 2), from == 1 || from == 2 ? from : 3);
        }
        Check.due("neither into sheds", Made.only(2).caught(2, 0, 2), -1);
        // two in a ring of four: across it is never caught by one, by two at once
        RainOnTheOne ring = Made.only(1, 6, 7);
        Check.due("by one", ring.caught(7, 0, 1), -1);
        Check.due("by two", ring.caught(7, 0, 2), 1);
    }

    private static void caughtAsSoonAs() {
        Doc.part("it is caught as soon as both are in one CELL (SHOWER being able to come to that CELL in its turn; if they are in one CELL at first: 0; it flees into SHOWER's: 1);");
        RainOnTheOne two = Made.only(1);
        Check.due("at first", two.caught(1, 1, 1), 0);
        Check.due("at first", two.caught(0, 0, 2), 0);
        Check.due("stays or into it: 1", two.caught(0, 1, 1), 1);
        RainOnTheOne alone = Made.only(29);
        Check.due("at first, shut in", alone.caught(29, 29, 1), 0);
        Check.due("it can't come", alone.caught(29, 0, 1), -1);
        // fewer than two will do: from 0 to 1 it is one
        Check.due("fewer", two.caught(1, 0, 2), 1);
        RainOnTheOne three = Made.only(1, 2);
        Check.due("in its second turn", three.caught(2, 0, 1), 2);
        Check.due("in its first", three.caught(2, 0, 2), 1);
    }

    private static void inHowManyTurns() {
        Doc.part("it flees as long as can be, SHOWER catches as soon as can be: in how many turns; never.");
        RainOnTheOne open = new RainOnTheOne();
        Check.due("never by one", open.caught(29, 0, 1), -1);
        Check.due("never by one, side by side", open.caught(8, 7, 1), -1);
        Check.due("by two it is", open.caught(29, 0, 2) > 1, true);
        // a long path of twenty cells: from its start to its end
        RainOnTheOne path = Made.only(1, 2, 3, 4, 5, 11, 17, 16, 15, 14, 13, 12, 18, 24, 25, 26, 27, 28, 29);
        Check.due("by one", path.caught(29, 0, 1), 19);
        Check.due("by two", path.caught(29, 0, 2), 10);
        Check.due("it goes to the end first", path.caught(3, 0, 1), 19);
        Check.due("side by side it is caught at the end", path.caught(1, 0, 1), 19);
    }

    private static void flee() {
        Doc.part("FLEE: the CELL to which it should go (or stay); of like ones the lowest (0 turns: its own).");
        RainOnTheOne row = Made.only(1, 2, 3, 4, 5);
        Check.due("its own", row.flee(3, 3, 1), 3);
        Check.due("away", row.flee(3, 0, 2), 4);
        Check.due("away", row.flee(1, 2, 1), 0);
        Check.due("of like ones the lowest: nearer", row.flee(3, 0, 1), 2);
        Check.due("of like ones the lowest", row.flee(4, 0, 1), 3);
        Check.due("of like ones the lowest", row.flee(5, 0, 1), 4);
        Check.due("at the end it stays", row.flee(5, 3, 1), 5);
        Check.due("whatever it does", row.flee(5, 4, 2), 4);
        RainOnTheOne open = new RainOnTheOne();
        Check.due("never: the lowest", open.flee(14, 29, 1), 8);
        Check.due("never: the lowest is its own", open.flee(0, 29, 1), 0);
        RainOnTheOne ring = Made.only(1, 6, 7);
        Check.due("across it stays", ring.flee(7, 0, 1), 7);
        Check.due("beside it goes on", ring.flee(1, 0, 1), 7);
        Check.due("caught in one: the lowest", ring.flee(7, 0, 2), 1);
    }

    private static void tour() {
        Doc.part("A TOUR: from a CELL to all of some CELLS (bits; 1 to 5 that are no SHEDS), in the order by which STEPS in all are fewest;");
        RainOnTheOne x = new RainOnTheOne();
        Check.due("none of them", x.tour(0, 0, -1), -2);
        Check.due("one", x.tour(0, 1 << 29, -1), 9);
        Check.due("five", x.tour(3, 0b110111, -1), 7);
        Check.due("six", x.tour(3, 0b111111, -1), -2);
        Check.due("its own is among them", x.tour(0, 0b11111, -1), 4);
        Check.due("the nearer end first", x.tour(3, 0b100001, 0), 5);
        Check.due("the nearer end first", x.tour(2, 0b100001, 0), 0);
        x.shed(4, true);
        Check.due("a shed", x.tour(0, 1 << 4, -1), -2);
        Check.due("round it", x.tour(3, 1 << 5, -1), 4);
        Doc.part("of like ones the lowest first CELL, then the next, ..: STEPS in all, the i-th CELL of the order; none.");
        RainOnTheOne y = new RainOnTheOne();
        // 14 with its four sides: each first, all are 1 + 2 + 2 + 2
        int sides = 1 << 8 | 1 << 13 | 1 << 15 | 1 << 20;
        int[] due = {8, 13, 15, 20};
        Check.due("in all", y.tour(14, sides, -1), 7);
        for (int i = 0; i < 4; i++) {
            Check.due("the " + i, y.tour(14, sides, i), due[i]);
        }
        Check.due("no fifth", y.tour(14, sides, 4), -2);
        Check.due("none", Made.only(29).tour(0, 1 << 29, -1), -2);
        Check.due("none", Made.only(29).tour(0, 1 | 1 << 29, 0), -2);
    }

    private static void cut() {
        Doc.part("CUT: the fewest CELLS (neither of the two, no SHEDS) that would have to be SHEDS, so that there would be no STEPS from one CELL to another one; 0: there are none now; none: they are side by side.");
        RainOnTheOne x = new RainOnTheOne();
        int[][] cuts = {{0, 29, 2}, {0, 2, 2}, {1, 3, 3}, {7, 9, 4}, {7, 28, 3}, {14, 21, 4}, {14, 15, -1},
            {14, 8, -1}, {5, 6, 2}, {0, 7, 2}};
        for (int[] c : cuts) {
            Check.due("cut " + c[0] + " " + c[1], x.cut(c[0], c[1]), c[2]);
            Check.due("cut " + c[1] + " " + c[0], x.cut(c[1], c[0]), c[2]);
        }
        // fewer than are beside either: a wall with one gap
        for (int c = 3; c < 27; c += 6) {
            x.shed(c, true);
        }
        Check.due("one gap", x.cut(7, 10), 1);
        x.shed(27, true);
        Check.due("none now", x.cut(7, 10), 0);
        RainOnTheOne wall = new RainOnTheOne();
        int[] shut = {26, 20, 14, 2, 8};
        for (int i = 0; i < shut.length; i++) {
            Check.due("gaps left: " + (5 - i), wall.cut(7, 10), Math.min(4, 5 - i));
            Check.due("gaps left: " + (5 - i), wall.cut(9, 7), Math.min(4, 5 - i));
            wall.shed(shut[i], true);
        }
        Check.due("no gap left", wall.cut(9, 7), 0);
        RainOnTheOne corner = new RainOnTheOne();
        corner.shed(3, true);
        corner.shed(8, true);
        Check.due("the first cell is one of two", corner.cut(1, 6), 2);
        RainOnTheOne row = Made.only(1, 2, 3);
        Check.due("side by side, and nothing else", row.cut(0, 1), -1);
        Check.due("one of two", row.cut(0, 3), 1);
    }

    private static void narrows() {
        Doc.part("NARROWS: CELLS (bits) that are no SHEDS, without which two others, between which there are STEPS, would have none.");
        Check.due("none", new RainOnTheOne().narrows(), 0);
        Check.due("a row but its ends", Made.only(1, 2, 3, 4, 5).narrows(), 0b11110);
        Check.due("a ring", Made.only(1, 6, 7).narrows(), 0);
        Check.due("two rings in one cell", Made.only(1, 6, 7, 8, 13, 14).narrows(), 1 << 7);
        Check.due("two parts", Made.only(1, 2, 27, 28, 29).narrows(), 1 << 1 | 1 << 28);
        // a wall: the cell left open in it
        RainOnTheOne x = new RainOnTheOne();
        int[] wall = {3, 9, 15, 21};
        for (int c : wall) {
            x.shed(c, true);
        }
        Check.due("the gap and both sides of it", x.narrows(), 7 << 26);
        x.shed(27, true);
        Check.due("shut", x.narrows(), 0);
    }

    private static void roster() {
        Doc.part("A ROSTER for days 0 .. 6: each day one PERSON is it (of those told), nobody on two days one behind the other, each on k (1 .. 7) at most:");
        for (int people = 2; people <= 5; people++) {
            RainOnTheOne x = Made.with(people);
            for (int day = 0; day < 7; day++) {
                x.cost(people - 1, day, 0);
                // those not told cost nothing and are it on no day
                x.cost(Math.min(people, 4), day, 0);
            }
            for (int k = 1; k <= 7; k++) {
                if (x.roster(k, -1) != -1) {
                    rosterIsOne(x, people, k);
                }
            }
        }
        RainOnTheOne x = Made.with(5);
        Check.due("k 0", x.roster(0, -1), -1);
        Check.due("k 1", x.roster(1, -1), -1);
        Check.due("k 7", x.roster(7, -1), 70);
        Check.due("k 8", x.roster(8, -1), -1);
        Check.due("day 7", x.roster(7, 7), -1);
    }

    private static void rosterIsOne(RainOnTheOne x, int people, int k) {
        int[] times = new int[5];
        int before = -1;
        for (int day = 0; day < 7; day++) {
            int who = x.roster(k, day);
            Check.due("one of those told", who >= 0 && who < people, true);
            Check.due("not on two days behind one another", who != before, true);
            times[who]++;
            before = who;
        }
        for (int n : times) {
            Check.due("on " + k + " at most", n <= k, true);
        }
    }

    private static void leastCost() {
        Doc.part("the least COST (told for PEOPLE and days, 0 .. 99; at first 10) in all; of like ones day by day the lowest PERSON; none.");
        RainOnTheOne x = Made.with(3);
        Check.due("at first 10", x.roster(7, -1), 70);
        int[] lowest = {0, 1, 0, 1, 0, 1, 0};
        for (int day = 0; day < 7; day++) {
            Check.due("day by day the lowest", x.roster(7, day), lowest[day]);
        }
        int[] thrice = {0, 1, 0, 1, 0, 1, 2};
        for (int day = 0; day < 7; day++) {
            Check.due("three each", x.roster(3, day), thrice[day]);
        }
        x.cost(2, 3, 9);
        Check.due("one less", x.roster(7, -1), 69);
        Check.due("the third then", x.roster(7, 3), 2);
        x.cost(0, 3, 9);
        Check.due("of like ones", x.roster(7, -1), 69);
        int[] then = {0, 1, 0, 2, 0, 1, 0};
        for (int day = 0; day < 7; day++) {
            Check.due("of like ones", x.roster(7, day), then[day]);
        }
        Check.due("none", Made.with(1).roster(7, -1), -1);
        unlikeCosts();
    }

    /** The costs are unlike on all days: the naive Model tries every ROSTER there is. */
    private static void unlikeCosts() {
        int drawn = 1;
        for (int i = 0; i < 40; i++) {
            int people = 2 + i % 4;
            RainOnTheOne x = Made.with(people);
            Model naive = new Model();
            for (int p = 0; p < people; p++) {
                naive.person(p, false);
                for (int day = 0; day < 7; day++) {
                    drawn = (drawn * 487 + 373) % 30671;
                    x.cost(p, day, drawn % 100);
                    naive.cost(p, day, drawn % 100);
                }
            }
            for (int k = 2; k <= 4; k++) {
                for (int day = -1; day < 7; day++) {
                    Check.due(people + " people, " + k + ", day " + day, x.roster(k, day), naive.roster(k, day));
                }
            }
        }
    }

    private static void swapped() {
        Doc.part("SWAPPED: by how much COST in all is less, were two days a, b (unlike ones) of that ROSTER to change PEOPLE (below 0: more).");
        RainOnTheOne x = Made.with(2);
        for (int day = 0; day < 7; day++) {
            x.cost(0, day, day % 2 == 0 ? 0 : 99);
            x.cost(1, day, day % 2 == 0 ? 99 : 0);
        }
        Check.due("for nothing", x.roster(4, -1), 0);
        Check.due("the most that more can be", x.swap(4, 0, 1), -198);
        Check.due("of one person", x.swap(4, 0, 2), 0);
        RainOnTheOne y = Made.with(2);
        y.cost(0, 0, 99);
        y.cost(1, 0, 99);
        y.cost(0, 1, 99);
        y.cost(1, 1, 0);
        y.cost(0, 2, 0);
        y.cost(1, 2, 99);
        // 0 1 0 1 .. is 99 + 0 + 0 + 40
        Check.due("whose", y.roster(7, 0), 0);
        Check.due("more", y.swap(7, 0, 1), -99);
        Check.due("like days", y.swap(7, 1, 1), -10000);
        y.cost(1, 0, 0);
        // 1 0 1 .. is 0 + 99 + 99 + 40
        Check.due("the same yet", y.roster(7, -1), 139);
        Check.due("less: 0 and 10, not 99 and 10", y.swap(7, 0, 3), 99);
    }

    private static void from() {
        Doc.part("FROM: SEEN (6 at most; told: SHOWER was in a CELL behind so many STEPS, 0 .. 30, of going on by side, through no SHEDS, without staying):");
        RainOnTheOne x = new RainOnTheOne();
        x.seen(0, 30);
        Check.due("thirty: the even ones", x.from(true), 15);
        Check.due("itself", x.from(false) & 3, 1);
        x.seen(-1, 0);
        x.seen(0, 29);
        Check.due("29: the odd ones", x.from(false) & 3, 2);
        x.seen(-1, 0);
        x.seen(29, 8);
        Check.due("too few for the first", x.from(false) & 1, 0);
        x.seen(-1, 0);
        x.seen(29, 9);
        Check.due("just enough", x.from(false) & 1, 1);
        x.seen(-1, 0);
        x.seen(0, 0);
        x.seen(0, 1);
        Check.due("without staying", x.from(true), 0);
        RainOnTheOne shut = Made.only(29, 28);
        shut.seen(0, 1);
        Check.due("through no sheds", shut.from(true), 0);
        shut.seen(-1, 0);
        shut.seen(28, 30);
        Check.due("to and fro", shut.from(false), 1 << 28);
        for (int i = 2; i <= 6; i++) {
            Check.due("six at most", shut.seen(28, 30), i);
        }
        Check.due("six at most", shut.seen(28, 30), -2);
    }

    private static void oneGoing() {
        Doc.part("CELLS it could have been in at first, so that one and the same going makes all of these so (without SEEN: all that are no SHEDS).");
        RainOnTheOne x = new RainOnTheOne();
        x.seen(7, 1);
        x.seen(9, 3);
        Check.due("beside 7", x.from(false), 1 << 1 | 1 << 6 | 1 << 8 | 1 << 13);
        x.seen(1, 0);
        Check.due("told later, seen first", x.from(false), 1 << 1);
        x.seen(20, 4);
        Check.due("each by itself could be, not both", x.from(false), 0);
        x.seen(-1, 0);
        x.seen(1, 2);
        x.seen(7, 2);
        Check.due("not in two at once", x.from(false), 0);
        x.seen(-1, 0);
        Check.due("without: all", x.from(true), 30);
        Check.due("but sheds", Made.only(3, 9).from(false), 1 | 1 << 3 | 1 << 9);
        RainOnTheOne y = new RainOnTheOne();
        y.seen(5, 0);
        y.shed(5, true);
        Check.due("a shed by now", y.from(true), 0);
    }

    private static void likely() {
        Doc.part("LIKELY: PEOPLE being DRAWN alike: how likely the same one is it just k (0 .. 10) of n (1 .. 10) times, in lowest terms.");
        for (int people = 1; people <= 5; people++) {
            RainOnTheOne x = Made.with(people);
            for (int n = 1; n <= 10; n++) {
                long all = 1;
                for (int i = 0; i < n; i++) {
                    all *= people;
                }
                long sum = 0;
                for (int k = 0; k <= 10; k++) {
                    long upper = x.likely(n, k, false);
                    long lower = x.likely(n, k, true);
                    Check.due("it divides", lower > 0 && all % lower == 0, true);
                    sum += lower > 0 ? upper * (all / lower) : 0;
                    Check.due("lowest terms", java.math.BigInteger.valueOf(upper)
                            .gcd(java.math.BigInteger.valueOf(lower)).longValue(), 1);
                    Check.due("more than n", k <= n || upper == 0 && lower == 1, true);
                }
                Check.due("all together " + people + " " + n, sum, all);
            }
        }
        Check.due("once of two, by three", Made.with(3).likely(2, 1, false), 4);
        Check.due("once of two, by three", Made.with(3).likely(2, 1, true), 9);
    }

    private static void days() {
        Doc.part("DAYS: how many draws it takes on the mean, till each was it, in lowest terms.");
        // one draw; 2/2 + 2/1; 3/3 + 3/2 + 3/1; 4/4 + 4/3 + 4/2 + 4/1; 5/5 + 5/4 + 5/3 + 5/2 + 5/1
        int[][] due = {{1, 1}, {3, 1}, {11, 2}, {25, 3}, {137, 12}};
        for (int people = 1; people <= 5; people++) {
            Check.due("upper", Made.with(people).days(false), due[people - 1][0]);
            Check.due("lower", Made.with(people).days(true), due[people - 1][1]);
        }
    }

    private static void whose() {
        Doc.part("WHOSE LAW (told: SAID, 8 at most: a PERSON, wants -999 .. 999): TEXTS (bits) by whose wants all are so (as now).");
        RainOnTheOne x = Made.with(2);
        Check.text(x, "wants 0-9999;");
        Check.text(x, "wants 9999;");
        Check.text(x, "wants 500*who;");
        Check.text(x, "wants minute;");
        Check.due("-1000", x.said(0, -1000), -2);
        Check.due("1000", x.said(0, 1000), -2);
        Check.due("-999", x.said(0, -999), 1);
        Check.due("the first", x.whose(), 1);
        x.said(-1, 0);
        Check.due("999", x.said(0, 999), 1);
        Check.due("the second", x.whose(), 2);
        x.said(-1, 0);
        x.said(0, 0);
        Check.due("the third, the fourth", x.whose(), 12);
        x.said(1, 500);
        Check.due("the third", x.whose(), 4);
        for (int i = 3; i <= 8; i++) {
            Check.due("eight at most", x.said(1, 500), i);
        }
        Check.due("eight at most", x.said(1, 0), -2);
        Check.due("the third yet", x.whose(), 4);
        x.said(-1, 0);
        x.said(0, 1);
        Check.due("none", x.whose(), 0);
        x.minute(1);
        Check.due("as now", x.whose(), 8);
        x.by(0);
        Check.due("whichever rules", x.whose(), 8);
    }

    private static void thirstyAndDriest() {
        Doc.part("THIRSTY: CELLS (bits) whose WATER is less than NEED.");
        RainOnTheOne x = new RainOnTheOne();
        x.person(0, true);
        x.minute(1);
        for (int need = 2; need <= 4; need++) {
            x.field(0, need);
            Check.due("need " + need, x.thirsty(false), need > 3 ? 1 : 0);
            Check.due("need " + need, x.thirsty(true), need > 3 ? 1 : 0);
        }
        x.field(29, 99);
        Check.due("more than enough makes up for none", x.thirsty(true), 100);
        x.field(0, 0);
        Check.due("more than enough makes up for none", x.thirsty(true), 99);
        Doc.part("DRIEST: the CELL that lacks most; of like ones the lowest; none.");
        Check.due("the last", x.driest(), 29);
        x.field(1, 98);
        Check.due("one less", x.driest(), 29);
        x.field(1, 99);
        Check.due("of like ones the lowest", x.driest(), 1);
        x.field(1, 0);
        x.field(29, 0);
        Check.due("none", x.driest(), -1);
    }

    private static void wettest() {
        Doc.part("WETTEST: the PERSON of most WET (above 0); of like ones the lowest; none.");
        RainOnTheOne x = Made.with(3);
        Check.due("all 0: none", x.wettest(), -1);
        x.walk(2, 1);
        x.walk(2, 0);
        x.hat(2, true);
        x.minute(2);
        x.hat(2, false);
        x.walk(1, 0);
        x.hat(1, true);
        x.minute(1);
        Check.due("wet", x.of(2, 2), 5);
        Check.due("most", x.wettest(), 2);
        x.undo();
        x.minute(1);
        x.hat(1, false);
        x.hat(2, false);
        for (int i = 0; i < 4; i++) {
            x.minute(1);
        }
        Check.due("wet by one", x.of(2, 2), 1);
        Check.due("above 0", x.wettest(), 2);
        x.minute(1);
        Check.due("none", x.wettest(), -1);
    }

    private static void nearest() {
        Doc.part("NEAREST: the PERSON of fewest STEPS to a CELL; of like ones the lowest; none.");
        RainOnTheOne x = new RainOnTheOne();
        x.person(12, false);
        x.person(2, true);
        x.person(0, false);
        Check.due("fewest", x.near(1), 1);
        Check.due("fewest", x.near(6), 0);
        Check.due("there", x.near(0), 2);
        Check.due("of like ones the lowest", x.near(14), 0);
        Check.due("of like ones the lowest", x.near(7), 0);
        x.shed(6, true);
        Check.due("by STEPS, not as the crow flies", x.near(7), 0);
        x.shed(13, true);
        Check.due("by STEPS, not as the crow flies", x.near(7), 1);
        x.shed(5, true);
        x.shed(10, true);
        Check.due("a shed: none", x.near(5), -1);
        x.shed(5, false);
        x.shed(11, true);
        x.shed(4, true);
        Check.due("shut in: none", x.near(5), -1);
    }

    private static void byTheBook() {
        Doc.part("BY THE BOOK: how much WATER came by a PERSON (NONE: all).");
        RainOnTheOne x = Made.with(2);
        Check.due("all, of an empty one", x.ledger(-1), 0);
        x.walk(1, 0);
        x.hat(0, true);
        x.by(Check.text(x, "pours 9;"));
        x.minute(10);
        x.hat(0, false);
        x.hat(1, true);
        x.minute(2);
        Check.due("of the first", x.ledger(0), 90);
        Check.due("of the second, 99 being all", x.ledger(1), 9);
        Check.due("all", x.ledger(-1), 99);
        x.minute(28);
        Check.due("thirty are in the book", x.ledger(0), 0);
        Check.due("eleven of them gone", x.ledger(1), 9);
        x.minute(1);
        Check.due("all gone", x.ledger(-1), 0);
    }

    private static void years() {
        Doc.part("YEARS by a SEED: X is SEED (0 .. 9999) * 2 + 241; n times (1 .. 40): x is X, X anew (as in a draw), of the PERSON x mod how many there are:");
        Doc.part("x mod 6: 0, 1 it WALKS above, left, right, below by x / 6 mod 4 (if it can be);");
        Doc.part("2 it is WITHOUT, if x mod 4 is above 0, else not (if it isn't so);");
        Doc.part("3, 4, 5 a MINUTE (if it can pass).");
        int[] seeds = {0, 1, 2, 3, 4, 5, 77, 1234, 5000, 9998, 9999};
        for (int seed : seeds) {
            int[] many = {1, 2, 3, 20, 39, 40};
            for (int n : many) {
                asByHand(seed, n, 14, new int[] {7, 0, 29, 28, 5});
                asByHand(seed, n, 1, new int[] {24});
            }
        }
        RainOnTheOne x = Made.late(9999);
        x.person(14, true);
        x.person(8, false);
        Check.due("no MINUTE can pass", x.years(3, 40), 9999);
        Check.due("on nobody it rained", x.of(0, 3) + x.of(1, 3), 0);
        Doc.part("It is one STEP: MINUTE.");
        x = Made.with(2);
        x.minute(2);
        int minute = x.years(42, 40);
        Check.due("one", x.about(3), 3);
        Check.due("minute", x.is(0), minute);
        Check.due("taken back", x.undo(), 2);
        Check.due("minute", x.is(0), 2);
        Check.due("the least of them", x.years(0, 1), 2);
        Check.due("one", x.about(3), 3);
    }

    /** The same by hand: walks, hats and minutes by the numbers of one who has X himself. */
    private static void asByHand(int seed, int n, int shed, int[] cells) {
        RainOnTheOne x = new RainOnTheOne();
        RainOnTheOne y = new RainOnTheOne();
        RainOnTheOne[] both = {x, y};
        for (RainOnTheOne one : both) {
            one.shed(shed, true);
            for (int p = 0; p < cells.length; p++) {
                one.person(cells[p], p % 2 == 0);
            }
        }
        int drawn = seed * 2 + 241;
        int[] sides = {-6, -1, 1, 6};
        boolean toHand = true;
        for (int i = 0; i < n && toHand; i++) {
            int person = drawn % cells.length;
            if (drawn % 6 < 2) {
                y.walk(person, y.of(person, 0) + sides[drawn / 6 % 4]);
            } else if (drawn % 6 == 2) {
                y.hat(person, drawn % 4 > 0);
            } else {
                // by hand X is another one: only while SHOWER goes for somebody it is all the same
                toHand = y.is(3) != -1;
                y.minute(toHand ? 1 : 0);
            }
            drawn = (drawn * 487 + 373) % 30671;
        }
        if (!toHand) {
            return;
        }
        Check.due("minute, seed " + seed + " " + n, x.years(seed, n), y.is(0));
        Check.due("x, seed " + seed, x.is(2), drawn);
        Check.due("shower, seed " + seed, x.is(1), y.is(1));
        for (int p = 0; p < cells.length; p++) {
            for (int what = 0; what <= 4; what++) {
                Check.due("of " + p + " " + what + ", seed " + seed, x.of(p, what), y.of(p, what));
            }
        }
    }

    private static void yearsWithoutPeople() {
        Doc.part("Without PEOPLE all but MINUTES are nothing.");
        int[] seeds = {0, 1, 9999};
        for (int seed : seeds) {
            RainOnTheOne x = new RainOnTheOne();
            int drawn = seed * 2 + 241;
            int minutes = 0;
            for (int i = 0; i < 40; i++) {
                int now = drawn;
                drawn = (drawn * 487 + 373) % 30671;
                if (now % 6 >= 3) {
                    // SHOWER goes for nobody: a draw by 4
                    minutes++;
                    drawn = (drawn * 487 + 373) % 30671;
                }
            }
            Check.due("minutes", x.years(seed, 40), minutes);
            Check.due("x", x.is(2), drawn);
            Check.due("nobody", x.about(0), 0);
            Check.due("a STEP", x.about(3), 1);
        }
    }

    private static void image() {
        Doc.part("AN IMAGE: all as it is, but the tape and the latest FAULT.");
        RainOnTheOne x = Made.busy();
        x.image();
        Check.due("the tape stays", x.about(6), 4);
        Check.text(x, "pours steps;");
        Check.tape(x, "pours 5;");
        x.back();
        Check.due("the tape is not of it", x.about(6), 8);
        Check.due("the fault is not of it", x.fault(0), 5);
        Check.due("nor its place", x.fault(1), 6);
        Check.due("the tape can be read", x.text(), 2);
        Doc.part("BACK: all is so again.");
        RainOnTheOne y = Made.busy();
        String before = Made.world(y);
        y.image();
        y.person(3, true);
        y.field(8, 1);
        y.shed(11, true);
        y.shed(7, false);
        y.cost(0, 0, 77);
        y.seen(-1, 0);
        y.said(0, 77);
        y.by(-1);
        Check.text(y, "wants 1;");
        y.played(2);
        y.draw();
        y.minute(60);
        y.years(9, 9);
        y.undo();
        y.back();
        Check.due("all", Made.world(y), before);
        for (int i = 9; i >= 0; i--) {
            Check.due("its STEPS too", y.undo(), i);
        }
        Check.due("minute", y.is(0), 0);
        Check.due("and again", y.back(), 8);
    }
}
