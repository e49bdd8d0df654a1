/** Promises 1 to 9: a new object, what is told, the tape and its texts. */
public final class TellTest {
    public static void main(String[] args) {
        newObject();
        people();
        fields();
        sheds();
        tape();
        texts();
        ruling();
        Check.finish();
    }

    private static void newObject() {
        RainOnTheOne x = new RainOnTheOne();
        for (int what = 0; what <= 6; what++) {
            Check.due("about " + what, x.about(what), what == 2 ? -1 : 0);
        }
        Check.due("minute", x.is(0), 0);
        Check.due("shower", x.is(1), 0);
        Check.due("x", x.is(2), 241);
        Check.due("goal", x.is(3), -1);
        Check.due("book", x.book(-1, 0), 0);
        for (int c = 0; c < 30; c++) {
            for (int what = 0; what <= 3; what++) {
                Check.due("ofCell " + c, x.ofCell(c, what), 0);
            }
        }
        // the image is the new object, whatever has been told since
        x.person(3, true);
        x.shed(9, true);
        x.field(4, 5);
        x.cost(0, 0, 1);
        x.seen(4, 1);
        x.said(0, 7);
        x.by(Check.text(x, "draw;"));
        x.minute(9);
        Check.due("back", x.back(), 0);
        Check.due("people", x.about(0), 0);
        Check.due("texts", x.about(1), 0);
        Check.due("the text", x.about(2), -1);
        Check.due("done", x.about(3), 0);
        Check.due("seen", x.about(4), 0);
        Check.due("said", x.about(5), 0);
        Check.due("shed", x.ofCell(9, 2), 0);
        Check.due("need", x.ofCell(4, 0), 0);
        Check.due("shower", x.is(1), 0);
        Check.due("x", x.is(2), 241);
        x.person(0, true);
        x.person(0, true);
        Check.due("roster", x.roster(7, -1), 70);
    }

    private static void people() {
        RainOnTheOne x = new RainOnTheOne();
        Check.due("person below", x.person(-1, true), -1);
        Check.due("person above", x.person(30, true), -1);
        x.shed(7, true);
        Check.due("person in a shed", x.person(7, true), -1);
        Check.due("first", x.person(29, true), 0);
        Check.due("second, same cell", x.person(29, false), 1);
        Check.due("third, at the shower", x.person(0, true), 2);
        Check.due("fourth", x.person(5, true), 3);
        Check.due("fifth", x.person(24, false), 4);
        Check.due("sixth", x.person(1, true), -1);
        Check.due("people", x.about(0), 5);
        Check.due("cell", x.of(0, 0), 29);
        Check.due("without", x.of(0, 1), 1);
        Check.due("with", x.of(1, 1), 0);
        Check.due("wet", x.of(4, 2), 0);
        Check.due("been", x.of(4, 3), 0);
        Check.due("telling is no step", x.about(3), 0);
    }

    private static void fields() {
        RainOnTheOne x = new RainOnTheOne();
        Check.due("field", x.field(0, 99), true);
        Check.due("field", x.field(29, 1), true);
        Check.due("field anew", x.field(29, 0), true);
        Check.due("field below", x.field(-1, 1), false);
        Check.due("field above", x.field(30, 1), false);
        Check.due("need below", x.field(3, -1), false);
        Check.due("need above", x.field(3, 100), false);
        Check.due("need", x.ofCell(0, 0), 99);
        Check.due("need", x.ofCell(29, 0), 0);
        Check.due("need", x.ofCell(3, 0), 0);
        x.shed(4, true);
        Check.due("field that is a shed", x.field(4, 6), true);
        Check.due("its need", x.ofCell(4, 0), 6);
    }

    private static void sheds() {
        RainOnTheOne x = new RainOnTheOne();
        x.person(8, false);
        Check.due("shed", x.shed(29, true), true);
        Check.due("it is so", x.shed(29, true), false);
        Check.due("none any more", x.shed(29, false), true);
        Check.due("it is so", x.shed(29, false), false);
        Check.due("a person is there", x.shed(8, true), false);
        Check.due("the shower is there", x.shed(0, true), false);
        Check.due("below", x.shed(-1, true), false);
        Check.due("above", x.shed(30, true), false);
        Check.due("below", x.shed(-1, false), false);
        // one can be in a shed by taking back alone
        x.walk(0, 9);
        Check.due("left", x.shed(8, true), true);
        x.undo();
        Check.due("in a shed", x.ofCell(8, 3), 1);
        Check.due("a shed", x.ofCell(8, 2), 1);
        Check.due("a person is there", x.shed(8, false), false);
        Check.due("no steps from there", x.steps(8, 9), -1);
        Check.due("no steps there", x.steps(8, 8), -1);
        Check.due("nearest", x.near(9), -1);
        Check.due("wants, if there are no steps", x.of(0, 4), 0);
        Check.due("out of it", x.walk(0, 14), true);
        Check.due("not in again", x.walk(0, 8), false);
        Check.due("none any more", x.shed(8, false), true);
    }

    private static void tape() {
        RainOnTheOne x = new RainOnTheOne();
        Check.due("end below", x.end(-1), -1);
        Check.due("end above", x.end(1), -1);
        Check.due("end", x.end(0), 0);
        for (int i = 1; i <= 15; i++) {
            Check.due("feed", x.feed(0, 0, 0, 0, 0), 20 * i);
        }
        Check.due("feed beyond 300", x.feed(0, 0, 0, 0, 0), -1);
        Check.due("bytes", x.about(6), 300);
        Check.due("end above", x.end(301), -1);
        Check.due("end", x.end(300), 300);
        Check.due("end", x.end(281), 281);
        Check.due("feed beyond 300", x.feed(0, 0, 0, 0, 0), -1);
        Check.due("bytes", x.about(6), 281);
        Check.due("end", x.end(280), 280);
        Check.due("feed", x.feed(0, 0, 0, 0, 0), 300);
        Check.due("end above", x.end(-7), -1);
        Check.due("end", x.end(0), 0);
        // highest byte first, bytes above 127 too: 'draw' ';' ' ' and then 200
        x.feed(0x64726177, 0x3b20c800, 0, 0, 0);
        x.end(7);
        Check.due("text", x.text(), -1);
        Check.due("fault", x.fault(0), 1);
        Check.due("place", x.fault(1), 6);
    }

    private static void texts() {
        RainOnTheOne x = new RainOnTheOne();
        Check.due("fault ahead of any", x.fault(0), -1);
        Check.due("place ahead of any", x.fault(1), -1);
        Check.due("an empty text", x.text(), 0);
        Check.due("fault", x.fault(0), 0);
        Check.due("place", x.fault(1), -1);
        Check.due("others", x.fault(2), -1);
        Check.due("others", x.fault(-1), -1);
        Check.due("played", x.played(0), -1);
        Check.due("text", Check.text(x, " \n "), 1);
        Check.tape(x, "draw");
        Check.due("a fault", x.text(), -1);
        Check.due("the tape is empty then", x.about(6), 0);
        Check.due("fault", x.fault(0), 1);
        Check.due("place", x.fault(1), 4);
        Check.due("texts", x.about(1), 2);
        Check.due("text", Check.text(x, "draw;"), 2);
        Check.due("fault", x.fault(0), 0);
        Check.due("text", Check.text(x, "minute 1;"), 3);
        Check.due("the tape is empty then", x.about(6), 0);
        Check.tape(x, "draw");
        Check.due("there are 4", x.text(), -1);
        Check.due("the tape stays", x.about(6), 4);
        Check.due("the latest that was read", x.fault(0), 0);
        Check.due("back", x.back(), 0);
        Check.due("the tape stays", x.about(6), 4);
        Check.due("the fault stays", x.fault(0), 0);
        Check.due("texts", x.about(1), 0);
        Check.due("a fault", x.text(), -1);
        Check.due("fault", x.fault(0), 1);
        Check.due("text", Check.text(x, "minute 2;"), 0);
        Check.due("played", x.played(0), -1);
        Check.due("minute", x.is(0), 2);
    }

    private static void ruling() {
        RainOnTheOne x = new RainOnTheOne();
        Check.due("none", x.by(-1), true);
        Check.due("others", x.by(0), false);
        Check.due("others", x.by(-2), false);
        x.person(4, true);
        Check.due("wants", x.of(0, 4), 95);
        Check.text(x, "wants 7;");
        Check.text(x, "pours 8;");
        Check.due("told, not ruling yet", x.of(0, 4), 95);
        Check.due("by", x.by(0), true);
        Check.due("the text", x.about(2), 0);
        Check.due("wants", x.of(0, 4), 7);
        Check.due("pours", x.of(0, 5), 3);
        Check.due("others", x.by(2), false);
        Check.due("the text", x.about(2), 0);
        Check.due("by", x.by(1), true);
        Check.due("wants", x.of(0, 4), 95);
        Check.due("pours", x.of(0, 5), 8);
        Check.due("none", x.by(-1), true);
        Check.due("pours", x.of(0, 5), 3);
        Check.due("the text", x.about(2), -1);
    }
}
