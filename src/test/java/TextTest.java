/** Part II: tokens, FAULTS, and what laws say. */
public final class TextTest {
    public static void main(String[] args) {
        tokens();
        cannotStand();
        numbers();
        depth();
        twiceAndNames();
        tooMany();
        sums();
        choices();
        names();
        limits();
        Check.finish();
    }

    private static void tokens() {
        Check.fault("", 0, -1);
        Check.fault("draw;draw ;\ndraw\n;", 0, -1);
        Check.fault("person8;walk0to9;field3of4;", 0, -1);
        Check.fault("wants-1;pours(2);", 0, -1);
        Check.fault("drawdraw;", 1, 0);
        Check.fault("Draw;", 1, 0);
        Check.fault("DRAW;", 1, 0);
        Check.fault("draw\t;", 1, 4);
        Check.fault("draw\r\n;", 1, 4);
        Check.fault("draw;" + (char) 0, 1, 5);
        Check.fault("draw;" + (char) 228, 1, 5);
        Check.fault("draw; ;", 1, 6);
        Check.fault("draw;  \n", 0, -1);
        Check.fault("draw  ", 1, 6);
        Check.fault("  7", 1, 2);
        Check.fault("drawa;", 1, 0);
        Check.fault("drawz;", 1, 0);
        Check.fault("drawA;", 1, 0);
        Check.fault("drawZ;", 1, 0);
        Check.fault("draw[;", 1, 4);
        Check.fault("draw@;", 1, 4);
        Check.fault("draw`;", 1, 4);
        Check.fault("draw{;", 1, 4);
        Check.fault("hat 4:;", 1, 5);
        Check.fault("dra w;", 1, 0);
    }

    private static void cannotStand() {
        Check.fault("person;", 1, 6);
        Check.fault("person 3 4;", 1, 9);
        Check.fault("person who;", 1, 7);
        Check.fault("person -1;", 1, 7);
        Check.fault("field 3 to 4;", 1, 8);
        Check.fault("walk 0 of 4;", 1, 7);
        Check.fault("walk 0 to;", 1, 9);
        Check.fault("minute;", 1, 6);
        Check.fault("draw 1;", 1, 5);
        Check.fault("wants;", 1, 5);
        Check.fault("wants 1", 1, 7);
        Check.fault("wants 1 2;", 1, 8);
        Check.fault("wants foo;", 1, 6);
        Check.fault("wants pours;", 1, 6);
        Check.fault("wants 1 +;", 1, 9);
        Check.fault("wants + 1;", 1, 6);
        Check.fault("wants (1;", 1, 8);
        Check.fault("wants 1);", 1, 7);
        Check.fault("wants ();", 1, 7);
        Check.fault("wants 1 < 2;", 1, 8);
        Check.fault("wants not 1 < 2;", 1, 6);
        Check.fault("wants if 1 then 2 else 3 end;", 1, 11);
        Check.fault("wants if 1 < then 2 else 3 end;", 1, 13);
        Check.fault("wants if 1 = < 2 then 2 else 3 end;", 1, 13);
        Check.fault("wants if 1 < = 2 then 2 else 3 end;", 1, 13);
        Check.fault("wants if 1 <= 2 then 2 else 3 end;", 0, -1);
        Check.fault("wants if 1<=2 then 2 else 3;", 1, 27);
        Check.fault("wants if 1<=2 then 2 end;", 1, 21);
        Check.fault("wants if 1<=2 or then 2 else 3 end;", 1, 17);
        Check.fault("wants if 1<2 and not 1#1 or 3>=2 then 2 else 3 end;", 0, -1);
        Check.fault("wants if (1<2) then 2 else 3 end;", 1, 11);
        Check.fault("wants if 1 < not 2 then 2 else 3 end;", 1, 13);
        Check.fault("wants if 1 < 2 < 3 then 2 else 3 end;", 1, 15);
        Check.fault("wants share 1 2;", 1, 14);
        Check.fault("wants share 1 + 1 of 2;", 1, 14);
        Check.fault("wants waters;", 1, 12);
        Check.fault("of 3;", 1, 0);
        Check.fault("who;", 1, 0);
        Check.fault("wants 99999 99999;", 2, 6);
        Check.fault("wants 1 99999;", 1, 8);
    }

    private static void numbers() {
        Check.fault("wants 9999;", 0, -1);
        Check.fault("wants 09999;", 0, -1);
        Check.fault("wants 10000;", 2, 6);
        Check.fault("wants 4294967297;", 2, 6);
        Check.fault("wants 18446744073709551617;", 2, 6);
        Check.fault("person 29;", 0, -1);
        Check.fault("person 30;", 2, 7);
        Check.fault("field 99 of 29;", 0, -1);
        Check.fault("field 100 of 30;", 2, 6);
        Check.fault("field 99 of 30;", 2, 12);
        Check.fault("shed 29;", 0, -1);
        Check.fault("shed 30;", 2, 5);
        Check.fault("walk 4 to 29;", 0, -1);
        Check.fault("walk 5 to 29;", 2, 5);
        Check.fault("walk 4 to 30;", 2, 10);
        Check.fault("hat 4;bare 4;", 0, -1);
        Check.fault("hat 5;", 2, 4);
        Check.fault("bare 5;", 2, 5);
        Check.fault("minute 60;minute 1;", 0, -1);
        Check.fault("minute 0;", 2, 7);
        Check.fault("minute 61;", 2, 7);
    }

    private static void depth() {
        Check.fault("wants ((((((((1))))))));", 0, -1);
        Check.fault("wants (((((((((1)))))))));", 3, 14);
        Check.fault("wants --------1;", 0, -1);
        Check.fault("wants ---------1;", 3, 14);
        Check.fault("wants 1---------1;", 0, -1);
        Check.fault("wants 1----------1;", 3, 16);
        Check.fault("wants ((((((((1+1))))))))-((((((((1))))))));", 0, -1);
        Check.fault("wants ((((((((-1))))))));", 3, 14);
        Check.fault("wants ((((((((share 1 of 1))))))));", 3, 14);
        Check.fault("wants ((((((((if 1<2 then 1 else 2 end))))))));", 3, 14);
        Check.fault("wants ((((((share 1 of (1)))))));", 0, -1);
        Check.fault("wants (((((((share 1 of (1))))))));", 3, 24);
        Check.fault("wants (((((((share (1) of 1)))))));", 3, 19);
        Check.fault("wants ((((((share (1) of ((1)))))))));", 3, 26);
        Check.fault("wants (((((((share 1 of 1+(1))))))));", 0, -1);
        Check.fault("wants (((((((waters 1+(1))))))));", 0, -1);
        Check.fault("wants (((((((-1+(1))))))));", 0, -1);
        Check.fault("wants if not not not not not not not 1<2 then 1 else 2 end;", 0, -1);
        Check.fault("wants if not not not not not not not not 1<2 then 1 else 2 end;", 3, 37);
        Check.fault("wants if not not not not not not not 1<(2) then 1 else 2 end;", 3, 39);
        Check.fault("wants if not not not not not not not 1<2 and (3)<4 then 1 else 2 end;", 0, -1);
        Check.fault("wants if 1<2 then (((((((1))))))) else -------2 end + (1);", 0, -1);
        Check.fault("wants if 1<2 then ((((((((1)))))))) else 2 end;", 3, 25);
        Check.fault("wants ((((((((1(;", 1, 15);
    }

    private static void twiceAndNames() {
        Check.fault("wants 1;pours 1;", 0, -1);
        Check.fault("wants 1;wants 1;", 4, 8);
        Check.fault("pours 1;draw;pours", 4, 13);
        Check.fault("wants steps;", 0, -1);
        Check.fault("pours steps;", 5, 6);
        Check.fault("wants steps;pours 1+steps;", 5, 20);
        Check.fault("pours 1 steps;", 1, 8);
        Check.fault("pours minute+who+wet+been+at+need+water;", 0, -1);
        Check.fault("wants minute+who+wet+been+at+need+water+steps;", 0, -1);
    }

    private static void tooMany() {
        String draws = "draw;".repeat(24);
        Check.fault(draws, 0, -1);
        Check.fault(draws + "draw;", 6, 120);
        Check.fault(draws + " hat 7;", 6, 121);
        Check.fault(draws + "foo;", 1, 120);
        Check.fault(draws + ";", 1, 120);
        Check.fault("wants 1;" + "draw;".repeat(23) + "wants 1;", 4, 123);
        Check.fault("wants 1;" + "draw;".repeat(23) + "pours 1;", 6, 123);
        Check.fault("draw;".repeat(60), 6, 120);
        Check.fault(";".repeat(300), 1, 0);
        Check.fault("wants " + "1+".repeat(146) + "1;", 0, -1);
    }

    /** What wants says of PERSON 0, who is in CELL 8 (SHOWER in 0), NEED 20 and WATER 6 there. */
    private static void says(String sum, int due) {
        RainOnTheOne x = new RainOnTheOne();
        x.person(8, true);
        x.field(8, 20);
        x.person(0, true);
        x.minute(2);
        x.hat(1, false);
        x.minute(5);
        // three on the way, then two rains on 0; two rains were on 1 ahead of that
        Check.due("wet of 0", x.of(0, 2), 6);
        Check.due("text " + sum, Check.text(x, "wants " + sum + ";"), 0);
        x.by(0);
        Check.due(sum, x.of(0, 4), due);
    }

    private static void sums() {
        says("1+2*3", 7);
        says("(1+2)*3", 9);
        says("10-2-3", 5);
        says("100/10/3", 3);
        says("100/7*7", 98);
        says("7/2", 3);
        says("-7/2", -3);
        says("7/-2", -3);
        says("7/0", 0);
        says("-7/0+1", 1);
        says("2*-3", -6);
        says("--4", 4);
        says("1- -4", 5);
        says("-2*3+1", -5);
        says("share 1 of 3", 33);
        says("share -2 of 3", -66);
        says("share 2 of -3", -66);
        says("share 1 of 0", 0);
        says("share 5 of 2+1", 251);
        says("share (1+1) of (2+2)", 50);
        says("share share 1 of 2 of 50", 100);
        says("share 1 of share 1 of 2", 2);
        says("share (9999*9999*9999) of 9999-9900", 101);
        says("waters 8", 6);
        says("waters at", 6);
        says("waters 0", 6);
        says("waters 1", 0);
        says("waters 29", 0);
        says("waters 30", 0);
        says("waters -1", 0);
        says("waters 7+1", 1);
        says("waters (7+1)", 6);
        says("waters waters 5", 6);
    }

    private static void choices() {
        says("if 1<2 then 3 else 4 end", 3);
        says("if 2<2 then 3 else 4 end", 4);
        says("if 2<=2 then 3 else 4 end", 3);
        says("if 2>2 then 3 else 4 end", 4);
        says("if 2>=2 then 3 else 4 end", 3);
        says("if 2=2 then 3 else 4 end", 3);
        says("if 3<=2 then 3 else 4 end", 4);
        says("if 2>=3 then 3 else 4 end", 4);
        says("if 3>2 then 3 else 4 end", 3);
        says("if 3=2 then 3 else 4 end", 4);
        says("if 2#2 then 3 else 4 end", 4);
        says("if 1#2 then 3 else 4 end", 3);
        says("if not 1#2 then 3 else 4 end", 4);
        says("if not not 1#2 then 3 else 4 end", 3);
        says("if 1=2 and 1=1 or 2=2 then 3 else 4 end", 3);
        says("if 1=1 or 2=2 and 1=2 then 3 else 4 end", 3);
        says("if 1=2 or 2=2 and 1=2 then 3 else 4 end", 4);
        says("if not 1=2 and 1=2 then 3 else 4 end", 4);
        says("if not 1=1 or 1=1 then 3 else 4 end", 3);
        says("1+if 1=1 then 2 else 3 end*10", 21);
        says("if 1=1 then if 1=2 then 5 else 6 end else 7 end+1", 7);
        says("if if 1=1 then 5 else 6 end=5 then 8 else 9 end", 8);
        says("if 1=2 then 5/0 else if 2=2 then 1+1 else 4 end*3 end", 6);
        says("if 1+1=2*1 then 1 else 0 end", 1);
    }

    private static void names() {
        says("minute", 7);
        says("who", 0);
        says("wet", 6);
        says("been", 2);
        says("at", 8);
        says("need", 20);
        says("water", 6);
        says("steps", 0);
        says("minute*100+who*50+at", 708);
        RainOnTheOne x = new RainOnTheOne();
        x.person(8, true);
        x.person(29, false);
        x.field(29, 44);
        x.shed(28, true);
        x.by(Check.text(x, "wants steps*10+who;pours need-40+who;"));
        Check.due("steps", x.of(0, 4), 30);
        Check.due("steps", x.of(1, 4), 91);
        Check.due("pours", x.of(0, 5), 0);
        Check.due("pours", x.of(1, 5), 5);
        x.shed(23, true);
        Check.due("steps, if there are none", x.of(1, 4), 991);
    }

    private static void limits() {
        says("9999", 999);
        says("-9999", -999);
        says("999", 999);
        says("9999*9999-9999*100-99", 1);
        says("9999*9999-9999*100-9", 91);
        says("-9999*9999+9999*100", -100);
        says("9999*9999/9999", 100);
        says("9999*100+9999-9999*100", 100);
        says("-9999*100-9999+9999*100", -100);
        says("9999*9999*-1+9999*100", -100);
        says("share (9999*9999) of 1/9999", 100);
        says("share (-9999*9999) of 1/9999", -100);
        says("share -9999 of 1/9999", -100);
        RainOnTheOne x = new RainOnTheOne();
        x.person(0, true);
        x.by(Check.text(x, "pours 10;"));
        Check.due("pours", x.of(0, 5), 9);
        x.by(Check.text(x, "pours -1;"));
        Check.due("pours", x.of(0, 5), 0);
        x.by(Check.text(x, "pours 9999*9999*-9999;wants-9999*9999;"));
        Check.due("pours", x.of(0, 5), 0);
        Check.due("wants", x.of(0, 4), -999);
    }
}
