/** Objects made ready for tests, and all that can be asked of one. */
final class Made {
    private Made() {
    }

    /** So many PEOPLE, none of them WITHOUT, in CELLS 0, 1, .. */
    static RainOnTheOne with(int people) {
        RainOnTheOne x = new RainOnTheOne();
        for (int p = 0; p < people; p++) {
            x.person(p, false);
        }
        return x;
    }

    /** Every CELL is a SHED but these and the SHOWER's, 0. */
    static RainOnTheOne only(int... cells) {
        RainOnTheOne x = new RainOnTheOne();
        for (int c = 1; c < 30; c++) {
            boolean open = false;
            for (int o : cells) {
                open |= o == c;
            }
            if (!open) {
                x.shed(c, true);
            }
        }
        return x;
    }

    /** Nobody, and so many MINUTES have passed. */
    static RainOnTheOne late(int minute) {
        RainOnTheOne x = new RainOnTheOne();
        for (int i = 0; i < minute / 60; i++) {
            x.minute(60);
        }
        if (minute % 60 > 0) {
            x.minute(minute % 60);
        }
        Check.due("minute", x.is(0), minute);
        return x;
    }

    /** Something of all there is: three PEOPLE, two TEXTS, four bytes on the tape, a FAULT. */
    static RainOnTheOne busy() {
        RainOnTheOne x = new RainOnTheOne();
        x.person(8, true);
        x.person(20, false);
        x.person(9, true);
        x.shed(7, true);
        x.shed(27, true);
        x.field(8, 50);
        x.field(3, 4);
        x.cost(0, 0, 3);
        x.cost(1, 6, 2);
        x.seen(8, 1);
        x.said(0, 5);
        x.by(Check.text(x, "wants 50-wet-who;pours 4;"));
        Check.text(x, "minute 2;walk 0 to 2;");
        x.minute(8);
        x.walk(1, 21);
        x.hat(2, false);
        Check.text(x, "draw");
        Check.tape(x, "hat ");
        Check.due("people", x.about(0), 3);
        Check.due("texts", x.about(1), 2);
        Check.due("steps", x.about(3), 10);
        return x;
    }

    /** All that an IMAGE has, as far as some 180 calls tell it. */
    static String world(RainOnTheOne x) {
        StringBuilder all = new StringBuilder();
        for (int what = 0; what <= 5; what++) {
            add(all, x.about(what));
        }
        for (int what = 0; what <= 3; what++) {
            add(all, x.is(what));
            add(all, x.book(0, what));
            add(all, x.book(x.book(-1, 0) - 1, what));
        }
        for (int p = 0; p < 5; p++) {
            for (int what = 0; what <= 5; what++) {
                add(all, x.of(p, what));
            }
        }
        for (int c = 0; c < 30; c++) {
            for (int what = 0; what <= 3; what++) {
                add(all, x.ofCell(c, what));
            }
        }
        for (int day = -1; day < 7; day++) {
            add(all, x.roster(7, day));
        }
        add(all, x.ledger(-1));
        add(all, x.from(false));
        add(all, x.whose());
        return all.toString();
    }

    /** The same with the tape's length and the latest FAULT, which an IMAGE has not. */
    static String state(RainOnTheOne x) {
        StringBuilder all = new StringBuilder(world(x));
        add(all, x.about(6));
        add(all, x.fault(0));
        add(all, x.fault(1));
        return all.toString();
    }

    private static void add(StringBuilder all, int answer) {
        all.append(answer).append(' ');
    }

    /** Numbers beside those from the least to the most: just beside, and as far off as can be. */
    static int[] beside(int least, int most) {
        return new int[] {least - 1, most + 1, least - 32, most + 32, -1000000, 1000000,
            Integer.MIN_VALUE, Integer.MIN_VALUE + 1, Integer.MAX_VALUE - 1, Integer.MAX_VALUE};
    }

    /** The same without NONE, where NONE has a meaning of its own. */
    static int[] besideNone(int most) {
        int[] all = beside(-1, most);
        Check.due("NONE is not among them", all[0], -2);
        return all;
    }
}
