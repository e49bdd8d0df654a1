/** Promises 1 to 9, a test for each of their sentences: its edges, and what is refused. */
final class EdgesOfTelling {
    private EdgesOfTelling() {
    }

    static void run() {
        newObject();
        person();
        noPerson();
        field();
        noField();
        shed();
        noShed();
        feed();
        noFeed();
        end();
        noEnd();
        text();
        noText();
        fault();
        noFault();
        by();
        notBy();
    }

    private static void newObject() {
        Doc.promise(1, "Nobody; THE IMAGE is this.");
        RainOnTheOne x = new RainOnTheOne();
        Check.due("people", x.about(0), 0);
        for (int c = 0; c < 30; c++) {
            Check.due("people in " + c, x.ofCell(c, 3), 0);
        }
        Check.due("back at once", x.back(), 0);
        RainOnTheOne busy = Made.busy();
        Check.due("back", busy.back(), 0);
        Check.due("all as new", Made.world(busy), Made.world(new RainOnTheOne()));
    }

    private static void person() {
        Doc.promise(2, "A PERSON: the number.");
        RainOnTheOne x = new RainOnTheOne();
        int[] cells = {0, 29, 29, 5, 24};
        for (int p = 0; p < 5; p++) {
            Check.due("number", x.person(cells[p], p % 2 == 0), p);
            Check.due("people", x.about(0), p + 1);
            Check.due("cell", x.of(p, 0), cells[p]);
            Check.due("without", x.of(p, 1), 1 - p % 2);
            Check.due("wet", x.of(p, 2), 0);
            Check.due("been", x.of(p, 3), 0);
        }
        Check.due("it is no STEP", x.about(3), 0);
        Check.due("both in 29", x.ofCell(29, 3), 6);
        RainOnTheOne y = new RainOnTheOne();
        y.shed(7, true);
        y.shed(7, false);
        Check.due("a SHED no more", y.person(7, true), 0);
    }

    private static void noPerson() {
        Doc.promise(2, "NONE for others (a SHED), or if there are 5.");
        RainOnTheOne x = Made.busy();
        String before = Made.state(x);
        for (int c : Made.beside(0, 29)) {
            Check.due("person " + c, x.person(c, true), -1);
        }
        Check.due("in a shed", x.person(7, true), -1);
        Check.due("in a shed", x.person(27, false), -1);
        Check.due("nothing is done", Made.state(x), before);
        x = Made.with(5);
        before = Made.state(x);
        Check.due("there are 5", x.person(3, true), -1);
        Check.due("there are 5", x.person(29, false), -1);
        Check.due("nothing is done", Made.state(x), before);
    }

    private static void field() {
        Doc.promise(3, "NEED: true.");
        RainOnTheOne x = new RainOnTheOne();
        x.shed(9, true);
        int[] cells = {0, 29, 9};
        for (int c : cells) {
            Check.due("the most", x.field(c, 99), true);
            Check.due("need", x.ofCell(c, 0), 99);
            Check.due("as it is", x.field(c, 99), true);
            Check.due("the least", x.field(c, 0), true);
            Check.due("need", x.ofCell(c, 0), 0);
        }
        Check.due("one", x.field(0, 1), true);
        Check.due("need", x.ofCell(0, 0), 1);
        Check.due("need beside it", x.ofCell(1, 0), 0);
        Check.due("it is no STEP", x.about(3), 0);
    }

    private static void noField() {
        Doc.promise(3, "False for others.");
        RainOnTheOne x = Made.busy();
        String before = Made.state(x);
        for (int c : Made.beside(0, 29)) {
            Check.due("cell " + c, x.field(c, 5), false);
        }
        for (int need : Made.beside(0, 99)) {
            Check.due("need " + need, x.field(8, need), false);
        }
        Check.due("nothing is done", Made.state(x), before);
    }

    private static void shed() {
        Doc.promise(4, "A SHED, or none: true.");
        RainOnTheOne x = new RainOnTheOne();
        for (int c = 1; c < 30; c++) {
            Check.due("shed " + c, x.shed(c, true), true);
            Check.due("it is", x.ofCell(c, 2), 1);
        }
        Check.due("0 is none", x.ofCell(0, 2), 0);
        for (int c = 1; c < 30; c += 14) {
            Check.due("none " + c, x.shed(c, false), true);
            Check.due("it is none", x.ofCell(c, 2), 0);
        }
        Check.due("it is no STEP", x.about(3), 0);
    }

    private static void noShed() {
        Doc.promise(4, "False for others, if it is so, and if a PERSON or SHOWER is there.");
        RainOnTheOne x = Made.busy();
        String before = Made.state(x);
        for (int c : Made.beside(0, 29)) {
            Check.due("cell " + c, x.shed(c, true), false);
            Check.due("cell " + c, x.shed(c, false), false);
        }
        Check.due("it is one", x.shed(7, true), false);
        Check.due("it is none", x.shed(29, false), false);
        Check.due("it is none, and a person is there", x.shed(8, false), false);
        Check.due("a person is there", x.shed(21, true), false);
        Check.due("the shower is there", x.shed(x.is(1), true), false);
        Check.due("nothing is done", Made.state(x), before);
        inASheds();
    }

    private static void inASheds() {
        RainOnTheOne x = new RainOnTheOne();
        x.person(1, false);
        x.walk(0, 2);
        Check.due("who has gone is not there", x.shed(1, true), true);
        x.undo();
        Check.due("a person is there by taking back", x.shed(1, false), false);
        RainOnTheOne y = new RainOnTheOne();
        y.person(1, true);
        y.minute(1);
        Check.due("the shower has gone", y.shed(0, true), true);
        y.undo();
        Check.due("the shower is there by taking back", y.shed(0, false), false);
        Check.due("it is one yet", y.ofCell(0, 2), 1);
    }

    private static void feed() {
        Doc.promise(5, "Twenty bytes come behind the tape, the highest of a first: how many it has.");
        RainOnTheOne x = new RainOnTheOne();
        // "person 17; field 33 of 4; shed 5;": twenty bytes, twelve and eight blanks
        Check.due("twenty", x.feed(0x70657273, 0x6f6e2031, 0x373b2066, 0x69656c64, 0x20333320), 20);
        Check.due("forty", x.feed(0x6f662034, 0x3b736865, 0x6420353b, 0x20202020, 0x0a0a0a0a), 40);
        Check.due("bytes", x.about(6), 40);
        Check.due("text", x.text(), 0);
        Check.due("played", x.played(0), -1);
        Check.due("person", x.of(0, 0), 17);
        Check.due("field", x.ofCell(4, 0), 33);
        Check.due("shed", x.ofCell(5, 2), 1);
        // bytes are 0 .. 255: -1 is four of 255
        Check.due("twenty", x.feed(-1, -1, -1, -1, -1), 20);
        Check.due("no text", x.text(), -1);
        Check.due("the first byte is none", x.fault(1), 0);
        RainOnTheOne y = new RainOnTheOne();
        for (int i = 1; i <= 15; i++) {
            Check.due("till 300", y.feed(0x20202020, 0x20202020, 0x20202020, 0x20202020, 0x20202020), 20 * i);
        }
        Check.due("300 are a text", y.text(), 0);
    }

    private static void noFeed() {
        Doc.promise(5, "NONE, and none come, if there would be more than 300.");
        for (int bytes = 281; bytes <= 300; bytes++) {
            RainOnTheOne x = new RainOnTheOne();
            Check.tape(x, " ".repeat(bytes));
            Check.due("feed behind " + bytes, x.feed(0, 0, 0, 0, 0), -1);
            Check.due("bytes", x.about(6), bytes);
            Check.due("none came", x.text(), 0);
        }
        RainOnTheOne x = new RainOnTheOne();
        Check.tape(x, " ".repeat(280));
        Check.due("just 300", x.feed(0, 0, 0, 0, 0), 300);
        Check.due("they came", x.text(), -1);
        Check.due("there", x.fault(1), 280);
    }

    private static void end() {
        Doc.promise(6, "The tape has its first n bytes alone: n.");
        RainOnTheOne x = new RainOnTheOne();
        Check.due("of none", x.end(0), 0);
        Check.tape(x, "draw;draw;draw;draw;");
        Check.due("all of them", x.end(20), 20);
        Check.due("bytes", x.about(6), 20);
        Check.due("one less", x.end(19), 19);
        Check.due("ten", x.end(10), 10);
        Check.due("bytes come behind these", x.feed(0x68617420, 0x373b0000, 0, 0, 0), 30);
        Check.due("sixteen", x.end(16), 16);
        Check.due("a number that can't be", x.text(), -1);
        Check.due("behind the ten", x.fault(1), 14);
        Check.tape(x, "draw;?");
        Check.due("five", x.end(5), 5);
        Check.due("the sixth is gone", x.text(), 0);
        Check.tape(x, "minute 66;");
        Check.due("eight", x.end(8), 8);
        Check.due("the NUMBER is the first 6 alone", x.text(), -1);
        Check.due("it can stand there", x.fault(0), 1);
        Check.due("what is due is at the end", x.fault(1), 8);
        Check.tape(x, "drawn");
        Check.due("four", x.end(4), 4);
        Check.due("the TOKEN is cut", x.text(), -1);
        Check.due("it can stand there", x.fault(1), 4);
        Check.tape(x, "?");
        Check.due("none", x.end(0), 0);
        Check.due("bytes", x.about(6), 0);
        Check.due("an empty text", x.text(), 1);
    }

    private static void noEnd() {
        Doc.promise(6, "NONE, and nothing is done, if it has not so many, or n is below 0.");
        RainOnTheOne x = Made.busy();
        String before = Made.state(x);
        for (int n : Made.beside(0, 4)) {
            Check.due("end " + n, x.end(n), -1);
        }
        Check.due("nothing is done", Made.state(x), before);
        RainOnTheOne y = new RainOnTheOne();
        Check.due("of none", y.end(1), -1);
        Check.tape(y, " ".repeat(300));
        Check.due("beyond 300", y.end(301), -1);
        Check.due("bytes", y.about(6), 300);
        // what was cut off does not come again
        y.end(3);
        Check.due("it has not so many any more", y.end(4), -1);
        Check.due("bytes", y.about(6), 3);
    }

    private static void text() {
        Doc.promise(7, "The tape (empty then) is a TEXT: its number.");
        RainOnTheOne x = new RainOnTheOne();
        String[] texts = {"", "draw;", "wants 1;", " ".repeat(295) + "draw;"};
        for (int t = 0; t < 4; t++) {
            Check.tape(x, texts[t]);
            Check.due("number", x.text(), t);
            Check.due("the tape is empty", x.about(6), 0);
            Check.due("texts", x.about(1), t + 1);
        }
        Check.due("it is no STEP", x.about(3), 0);
        Check.due("nor does it rule", x.about(2), -1);
    }

    private static void noText() {
        Doc.promise(7, "NONE: it has a FAULT; or (the tape stays) there are 4.");
        RainOnTheOne x = new RainOnTheOne();
        x.person(4, true);
        x.by(Check.text(x, "wants 7;"));
        String before = Made.world(x);
        Check.due("a fault", Check.text(x, "wants 8;pours 9;?"), -1);
        Check.due("the tape is empty then", x.about(6), 0);
        Check.due("nothing else is done", Made.world(x), before);
        Check.due("the next is 1", Check.text(x, "minute 1;"), 1);
        Check.due("a minute", x.played(1), -1);
        Check.due("of the faulty one nothing is left", x.by(1), true);
        Check.due("wants", x.of(0, 4), 96);
        Check.due("pours", x.of(0, 5), 3);
        Check.text(x, "");
        Check.due("a long one, not ended", Check.text(x, "wants 1" + "+1".repeat(140)), -1);
        Check.due("minutes, not ended", Check.text(x, "minute 5;".repeat(24) + "?"), -1);
        Check.due("a long one", Check.text(x, "minute 1;wants 1" + "+1".repeat(140) + ";"), 3);
        x.by(3);
        Check.due("wants", x.of(0, 4), 141);
        Check.due("played", x.played(3), -1);
        Check.due("one minute", x.is(0), 2);
        Check.tape(x, "draw");
        Check.due("there are 4", x.text(), -1);
        Check.due("the tape stays", x.about(6), 4);
        Check.due("it was not read", x.fault(0), 0);
        Check.due("texts", x.about(1), 4);
        Check.tape(x, "draw;");
        Check.due("there are 4", x.text(), -1);
        x.back();
        Check.due("the tape is still there", x.text(), 0);
        x.person(4, false);
        Check.due("and as it was", x.played(0), -1);
        Check.due("drawn", x.of(0, 1), 1);
    }

    private static void fault() {
        Doc.promise(8, "Of the latest text that was read: 0 its FAULT (0 without), 1 its place (NONE without).");
        RainOnTheOne x = new RainOnTheOne();
        Check.text(x, "?");
        Check.due("fault", x.fault(0), 1);
        Check.due("its place", x.fault(1), 0);
        Check.text(x, "wants " + " ".repeat(288) + "10000;");
        Check.due("fault", x.fault(0), 2);
        Check.due("its place", x.fault(1), 294);
        Check.text(x, "draw;");
        Check.due("0 without", x.fault(0), 0);
        Check.due("NONE without", x.fault(1), -1);
        Check.text(x, "draw" + " ".repeat(296));
        Check.due("fault", x.fault(0), 1);
        Check.due("the end's place", x.fault(1), 300);
        x.image();
        x.back();
        Check.due("no image changes it", x.fault(1), 300);
    }

    private static void noFault() {
        Doc.promise(8, "NONE for others, and ahead of any.");
        RainOnTheOne x = new RainOnTheOne();
        for (int what = -1; what <= 2; what++) {
            Check.due("ahead of any", x.fault(what), -1);
        }
        Check.tape(x, "draw");
        x.back();
        Check.due("not read yet", x.fault(0), -1);
        x.text();
        for (int what : Made.beside(0, 1)) {
            Check.due("others", x.fault(what), -1);
        }
        Check.due("fault", x.fault(0), 1);
    }

    private static void by() {
        Doc.promise(9, "THE TEXT (NONE: none): true.");
        RainOnTheOne x = new RainOnTheOne();
        Check.due("none, and there is none", x.by(-1), true);
        for (int t = 0; t < 4; t++) {
            Check.text(x, "wants " + t + ";");
        }
        x.person(4, true);
        int[] told = {0, 3, 3, -1, -1, 2};
        for (int t : told) {
            Check.due("by " + t, x.by(t), true);
            Check.due("the text", x.about(2), t);
            Check.due("it rules", x.of(0, 4), t == -1 ? 95 : t);
        }
        Check.due("it is no STEP", x.about(3), 0);
    }

    private static void notBy() {
        Doc.promise(9, "False for others.");
        RainOnTheOne x = Made.busy();
        String before = Made.state(x);
        for (int t : Made.besideNone(1)) {
            Check.due("by " + t, x.by(t), false);
        }
        Check.due("nothing is done", Made.state(x), before);
        RainOnTheOne y = new RainOnTheOne();
        Check.due("no text yet", y.by(0), false);
        for (int t = 0; t < 4; t++) {
            Check.text(y, "");
        }
        Check.due("a fifth", y.by(4), false);
        y.back();
        Check.due("gone with the image", y.by(0), false);
    }
}
