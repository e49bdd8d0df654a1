/** Part II of the document, the texts: a test for each of its sentences. */
final class EdgesOfTexts {
    private EdgesOfTexts() {
    }

    static void run() {
        texts();
        blanks();
        tokens();
        clauses();
        lawsOnce();
        deeds();
        sumsAndProducts();
        ones();
        share();
        waters();
        choices();
        names();
        cutTowardsZero();
        million();
        bothSides();
        whichFault();
        cannotStand();
        numbers();
        tooDeep();
        twice();
        nameOfNoClause();
        tooManyClauses();
        ruling();
        wantsWithin();
        poursWithin();
        played();
    }

    private static void texts() {
        Doc.part("TEXTS 0 .. 3: of up to 300 bytes.");
        RainOnTheOne x = new RainOnTheOne();
        for (int t = 0; t < 4; t++) {
            Check.due("300 bytes", Check.text(x, "minute " + (t + 1) + ";" + " ".repeat(291)), t);
        }
        Check.due("a fifth", Check.text(x, ""), -1);
        for (int t = 0; t < 4; t++) {
            Check.due("played", x.played(t), -1);
            Check.due("each its own", x.is(0), (t + 1) * (t + 2) / 2);
        }
        Check.fault(" ".repeat(295) + "draw;", 0, -1);
        Check.fault(" ".repeat(299) + ";", 1, 299);
        Check.fault("", 0, -1);
    }

    private static void blanks() {
        Doc.part("TOKENS, blanks (32, 10) aside:");
        Check.fault(" \n person\n \n3 ; \n", 0, -1);
        for (int sign = 0; sign < 256; sign++) {
            boolean blank = sign == 32 || sign == 10;
            boolean digit = sign >= '0' && sign <= '9';
            // behind the NUMBER 0 a digit is of that NUMBER: 00 .. 09
            Check.fault("person 0" + (char) sign + ";", blank || digit ? 0 : 1,
                    blank || digit ? -1 : sign == ';' ? 9 : 8);
        }
    }

    private static void tokens() {
        Doc.part("letters a .. z, A .. Z one behind the other (one TOKEN), digits likewise (NUMBERS, 0 .. 9999), <= >= < > = # + - * / ( ) ; (the longest).");
        Check.fault("person3;walk0to4;field9of9;", 0, -1);
        Check.fault("per son 3;", 1, 0);
        Check.fault("personZ 3;", 1, 0);
        Check.fault("Person 3;", 1, 0);
        for (char sign = 0; sign < 256; sign++) {
            boolean letter = sign >= 'a' && sign <= 'z' || sign >= 'A' && sign <= 'Z';
            boolean blank = sign == ' ' || sign == '\n';
            boolean whole = sign == ';';
            Check.fault("draw" + sign, whole ? 0 : 1, whole ? -1 : letter ? 0 : blank ? 5 : 4);
        }
        Check.fault("person 2 9;", 1, 9);
        Check.fault("person 0000000000029;", 0, -1);
        Check.fault("wants 0;", 0, -1);
        Check.fault("wants 9999;", 0, -1);
        Check.fault("wants 10000;", 2, 6);
        Check.fault("wants if 1<=1 then 1 else 0 end;", 0, -1);
        Check.fault("wants if 1< =1 then 1 else 0 end;", 1, 12);
        Check.fault("wants if 1>=1 then 1 else 0 end;", 0, -1);
        Check.fault("wants if 1> =1 then 1 else 0 end;", 1, 12);
        Check.fault("wants if 1==1 then 1 else 0 end;", 1, 11);
        Check.fault("wants if 1<>1 then 1 else 0 end;", 1, 11);
        Check.fault("wants if 1=<1 then 1 else 0 end;", 1, 11);
        Check.fault("wants if 1<==1 then 1 else 0 end;", 1, 12);
        Check.fault("wants if 1<-1 then 1 else 0 end;", 0, -1);
        Check.fault("wants if 1#1 then 1 else 0 end+1-1*1/1;", 0, -1);
        Check.fault("wants 1&1;", 1, 7);
        says("if 1<=1 then 7 else 8 end", 7);
        says("if 2>=3 then 7 else 8 end", 8);
    }

    private static void clauses() {
        Doc.part("{CLAUSE}, 24 at most:");
        Check.fault("draw;".repeat(24), 0, -1);
        Check.fault("draw;".repeat(25), 6, 120);
        RainOnTheOne x = new RainOnTheOne();
        Check.due("none at all", Check.text(x, ""), 0);
        Check.due("none at all", x.played(0), -1);
        Check.due("24", Check.text(x, "minute 1;".repeat(24)), 1);
        Check.due("all of them", x.played(1), -1);
        Check.due("minute", x.is(0), 24);
    }

    private static void lawsOnce() {
        Doc.part("wants SUM ; or pours SUM ; (each once)");
        Check.fault("wants 1;pours 1;", 0, -1);
        Check.fault("pours 1;draw;wants 1;", 0, -1);
        Check.fault("pours 1;wants 1;pours 1;", 4, 16);
        Check.fault("wants 1;pours 1;wants 1;", 4, 16);
        Check.fault("wants;", 1, 5);
        Check.fault("pours ;", 1, 6);
        Check.fault("wants 1", 1, 7);
        Check.fault("wants", 1, 5);
    }

    private static void deeds() {
        Doc.part("or person NUMBER ; (CELL, WITHOUT) or field NUMBER of NUMBER ; (NEED, CELL) or shed NUMBER ; or walk NUMBER to NUMBER ; (PERSON, CELL) or hat NUMBER ; (not WITHOUT any more) or bare NUMBER ; (WITHOUT) or draw ; or minute NUMBER ;.");
        RainOnTheOne x = new RainOnTheOne();
        Check.text(x, "person 0;person 29;field 99 of 29;field 1 of 0;shed 28;walk 0 to 1;hat 1;");
        Check.due("played", x.played(0), -1);
        Check.due("walked", x.of(0, 0), 1);
        Check.due("without", x.of(0, 1), 1);
        Check.due("there", x.of(1, 0), 29);
        Check.due("not any more", x.of(1, 1), 0);
        Check.due("need", x.ofCell(29, 0), 99);
        Check.due("need", x.ofCell(0, 0), 1);
        Check.due("shed", x.ofCell(28, 2), 1);
        Check.text(x, "bare 1;minute 60;");
        Check.due("played", x.played(1), -1);
        Check.due("without", x.of(1, 1), 1);
        Check.due("minute", x.is(0), 60);
        Check.text(x, "draw;");
        Check.due("played", x.played(2), -1);
        Check.due("241 mod 2", x.of(0, 1), 0);
        String[] whole = {"person 1;", "field 1 of 1;", "shed 1;", "walk 1 to 1;", "hat 1;", "bare 1;",
            "draw;", "minute 1;"};
        for (String clause : whole) {
            Check.fault(clause, 0, -1);
            // without the last sign it ends too early, with another one it is too long
            int end = clause.length() - 1;
            Check.fault(clause.substring(0, end), 1, end);
            Check.fault(clause.substring(0, end) + " 1;", 1, end + 1);
            Check.fault(clause + ";", 1, end + 1);
        }
        String[] cut = {"person", "field", "field 1", "field 1 of", "shed", "walk", "walk 1", "walk 1 to",
            "hat", "bare", "minute"};
        for (String clause : cut) {
            Check.fault(clause, 1, clause.length());
            Check.fault(clause + ";", 1, clause.length());
        }
    }

    /**
     * What wants says of PERSON 1, who is in CELL 8: MINUTE 7, WET 6, BEEN 2, NEED 20, WATER 6;
     * SHOWER is there too.
     */
    private static void says(String sum, int due) {
        RainOnTheOne x = new RainOnTheOne();
        x.person(0, true);
        x.person(8, true);
        x.field(8, 20);
        x.minute(2);
        x.hat(0, false);
        x.minute(5);
        Check.due("text " + sum, Check.text(x, "wants " + sum + ";"), 0);
        x.by(0);
        Check.due(sum, x.of(1, 4), due);
    }

    private static void sumsAndProducts() {
        Doc.part("SUM: PRODUCT {+ or - PRODUCT}. PRODUCT: ONE {* or / ONE}.");
        says("5", 5);
        says("5-3-1", 1);
        says("5-3+1", 3);
        says("2+3*4", 14);
        says("2*3+4", 10);
        says("20-12/4*3", 11);
        says("1" + "+1".repeat(140), 141);
        says("1" + "*1".repeat(140), 1);
        Check.fault("wants 1+;", 1, 8);
        Check.fault("wants 1*;", 1, 8);
        Check.fault("wants *1;", 1, 6);
        Check.fault("wants +1;", 1, 6);
        Check.fault("wants 1 1;", 1, 8);
    }

    private static void ones() {
        Doc.part("ONE: NUMBER, NAME, ( SUM ), - ONE,");
        says("0", 0);
        says("who", 1);
        says("(2+3)*(4-1)", 15);
        says("-2*3", -6);
        says("2*-3", -6);
        says("2--3", 5);
        says("-(2+3)", -5);
        says("--2", 2);
        Check.fault("wants ();", 1, 7);
        Check.fault("wants -;", 1, 7);
        Check.fault("wants (1;", 1, 8);
        Check.fault("wants 1);", 1, 7);
    }

    private static void share() {
        Doc.part("share ONE of ONE (a hundred times the first by the second, cut towards 0; by 0 it is 0),");
        says("share 1 of 8", 12);
        says("share -1 of 8", -12);
        says("share 1 of -8", -12);
        says("share -1 of -8", 12);
        says("share 0 of 8", 0);
        says("share 1 of 0", 0);
        says("share 0 of 0", 0);
        says("share -5 of 0", 0);
        says("share 1 of 101", 0);
        says("share -1 of 101", 0);
        says("share 1 of 100", 1);
        says("share 9 of 1", 900);
        says("share 1 of 2+1", 51);
        says("share 1 of 2*3", 150);
        says("share wet of need", 30);
        Check.fault("wants share 1 2;", 1, 14);
        Check.fault("wants share of 2;", 1, 12);
        Check.fault("wants share 1 of;", 1, 16);
        Check.fault("wants share 1+1 of 2;", 1, 13);
    }

    private static void waters() {
        Doc.part("waters ONE (WATER of the CELL of that number; 0 for others),");
        says("waters 8", 6);
        says("waters 0", 6);
        says("waters 29", 0);
        says("waters 30", 0);
        says("waters 9999", 0);
        says("waters -1", 0);
        says("waters -8", 0);
        says("waters (9999*9999)", 0);
        says("waters 2*4", 0);
        says("waters (2*4)", 6);
        says("waters at", 6);
        Check.fault("wants waters;", 1, 12);
        RainOnTheOne x = new RainOnTheOne();
        x.person(29, true);
        x.minute(10);
        x.by(Check.text(x, "wants waters 29*100+waters 28;"));
        Check.due("the last cell", x.of(0, 4), 300);
    }

    private static void choices() {
        Doc.part("if EITHER then SUM else SUM end. EITHER: BOTH {or BOTH}. BOTH: ASK {and ASK}. ASK: not ASK, or SUM one of < <= > >= = # (unlike) SUM.");
        String[] signs = {"<", "<=", ">", ">=", "=", "#"};
        // by sign: whether 1 to 2, 2 to 2, 3 to 2 is so
        boolean[][] so = {{true, false, false}, {true, true, false}, {false, false, true},
            {false, true, true}, {false, true, false}, {true, false, true}};
        for (int s = 0; s < 6; s++) {
            for (int n = 1; n <= 3; n++) {
                says("if " + n + signs[s] + "2 then 5 else 6 end", so[s][n - 1] ? 5 : 6);
                says("if not " + n + signs[s] + "2 then 5 else 6 end", so[s][n - 1] ? 6 : 5);
            }
        }
        String[] asks = {"1=2", "1=1"};
        for (int i = 0; i < 8; i++) {
            boolean a = (i & 1) != 0;
            boolean b = (i & 2) != 0;
            boolean c = (i & 4) != 0;
            String first = "if " + asks[i & 1];
            String rest = asks[i >> 2] + " then 5 else 6 end";
            says(first + " or " + asks[i >> 1 & 1] + " and " + rest, a || b && c ? 5 : 6);
            says(first + " and " + asks[i >> 1 & 1] + " or " + rest, a && b || c ? 5 : 6);
        }
        says(deepest("1"), 1);
        says(deepest("2"), 7);
        Check.fault("wants if 1 then 2 else 3 end;", 1, 11);
        Check.fault("wants if 1<2 else 3 end;", 1, 13);
        Check.fault("wants if 1<2 then 2 end;", 1, 20);
        Check.fault("wants if 1<2 then 2 else 3;", 1, 26);
        Check.fault("wants if (1<2) then 2 else 3 end;", 1, 11);
        Check.fault("wants if 1<2 or then 2 else 3 end;", 1, 16);
        Check.fault("wants if and 1<2 then 2 else 3 end;", 1, 9);
        Check.fault("wants 1<2;", 1, 7);
    }

    /** Eight around one another, each with all sides waiting that can: 7, unless it is 1 within. */
    private static String deepest(String within) {
        String text = within;
        for (int i = 0; i < 8; i++) {
            text = "if 1<0or1=1and1=0+1*" + text + " then1else7end";
        }
        return text;
    }

    private static void names() {
        Doc.part("NAMES: minute, who (the PERSON), wet, been, at (its CELL), need, water (of that CELL) in both; steps (from SHOWER; 99, if there are none) in wants.");
        String[] names = {"minute", "who", "wet", "been", "at", "need", "water", "steps"};
        int[] due = {7, 1, 6, 2, 8, 20, 6, 0};
        for (int i = 0; i < 8; i++) {
            says(names[i], due[i]);
            Check.fault("wants " + names[i] + ";", 0, -1);
            Check.fault("pours " + names[i] + ";", i < 7 ? 0 : 5, i < 7 ? -1 : 6);
        }
        RainOnTheOne x = new RainOnTheOne();
        x.person(29, false);
        x.by(Check.text(x, "wants steps;"));
        Check.due("the farthest", x.of(0, 4), 9);
        x.shed(28, true);
        x.shed(23, true);
        Check.due("none", x.of(0, 4), 99);
        RainOnTheOne y = new RainOnTheOne();
        y.person(0, true);
        y.by(Check.text(y, "pours minute;"));
        y.minute(10);
        for (int i = 0; i < 10; i++) {
            Check.due("the minute ahead of it", y.book(i, 3), i);
        }
    }

    private static void cutTowardsZero() {
        Doc.part("From the left; / cuts towards 0, by 0 it is 0;");
        says("7/2", 3);
        says("-7/2", -3);
        says("7/-2", -3);
        says("-7/-2", 3);
        says("1/2", 0);
        says("-1/2", 0);
        says("7/0", 0);
        says("-7/0", 0);
        says("0/0", 0);
        says("7/(1-1)+5", 5);
        says("10-4-3", 3);
        says("100/5/2", 10);
        says("7/2*2", 6);
        says("2*7/2", 7);
    }

    private static void million() {
        Doc.part("what is above 1000000 (below the same less) is that, at each step (of share at the end).");
        // 9999 * 100 is 999900, one hundred less than the most
        says("9999*100+100-9999*100", 100);
        says("9999*100+101-9999*100", 100);
        says("9999*100+99-9999*100", 99);
        says("-9999*100-100+9999*100", -100);
        says("-9999*100-101+9999*100", -100);
        says("-9999*100-99+9999*100", -99);
        says("9999*9999-9999*100", 100);
        says("-9999*9999+9999*100", -100);
        says("9999*-9999+9999*100", -100);
        says("9999*9999*9999*9999/9999", 100);
        says("9999*9999/-9999", -100);
        // a hundred times a million by a thousand is not cut at a million on the way
        says("share (9999*9999) of 1000-9999*10", 10);
        says("share (9999*9999) of 9999/10", 1000 - 1);
        says("share -(9999*9999) of 9999/10", -999);
        says("share 9999 of 0-9999", -999);
        says("share (9999*9999) of 1-9999*100", 100);
        says("share (-9999*9999) of 1+9999*100", -100);
        says("share (9999*2) of 1-9999*100", 100);
        says("-(9999*9999)+9999*100", -100);
    }

    private static void bothSides() {
        Doc.part("or and and look at both sides always, of if just the SUM that is chosen is asked.");
        says("if 1=1 or 1/0=1 then 5 else 6/0 end", 5);
        says("if 1=2 and 1/0=1 then 5/0 else 6 end", 6);
        says("if 1=1 then 5 else 9999*9999*9999 end", 5);
        says("if 1=1 then if 1=2 then 1 else 2 end else if 1=1 then 3 else 4 end end", 2);
        says("if 1=2 then if 1=2 then 1 else 2 end else if 1=1 then 3 else 4 end end", 3);
        says("10*if 1=1 then 2 else 3 end+if 1=2 then 4 else 5 end*2", 30);
    }

    private static void whichFault() {
        Doc.part("FAULTS, the first as TOKENS are come to, at the TOKEN's first byte (of the end at the length), of one the least:");
        Check.fault("hat 9;hat;", 2, 4);
        Check.fault("hat;hat 9;", 1, 3);
        Check.fault("  \n drawdraw ;", 1, 4);
        Check.fault("draw", 1, 4);
        Check.fault("draw \n ", 1, 7);
        Check.fault("wants 1 +\n", 1, 10);
        // 1 and 2, 1 and 3, 1 and 5, 4 and 6, 1 and 6
        Check.fault("draw 99999;", 1, 5);
        Check.fault("wants 1 99999;", 1, 8);
        Check.fault("wants ((((((((1(", 1, 15);
        Check.fault("pours 1 steps;", 1, 8);
        Check.fault("pours 1;" + "draw;".repeat(23) + "pours 1;", 4, 123);
        Check.fault("draw;".repeat(24) + "99999;", 1, 120);
        Check.fault("wants 99999" + "(".repeat(20), 2, 6);
    }

    private static void cannotStand() {
        Doc.part("1 it can't stand there, or is none.");
        String[] heads = {"of", "to", "then", "else", "end", "or", "and", "not", "if", "share", "waters",
            "who", "wet", "been", "at", "need", "water", "steps", "5", "<", "<=", "=", "#", "+", "-", "*",
            "/", "(", ")", ";", "foo", "?", "!", "_", "\"", "\t", "\r", "\u00e9", "\u00ff", "\u0000"};
        for (String head : heads) {
            Check.fault(head + " 1;", 1, 0);
            Check.fault("draw;" + head, 1, 5);
        }
        String[] noOnes = {"of", "to", "then", "else", "end", "or", "and", "not", "wants", "pours",
            "person", "field", "shed", "walk", "hat", "bare", "draw", "<", ">=", "#", "+", "*", "/", ")",
            ";", "foo", "Who", "?", "\u0000"};
        for (String one : noOnes) {
            Check.fault("wants " + one, 1, 6);
            Check.fault("pours 1+" + one, 1, 8);
            Check.fault("pours 1 * " + one + ";", 1, 10);
        }
    }

    private static void numbers() {
        Doc.part("2 a NUMBER that isn't one of those told (above 9999; CELLS 0 .. 29, NEED 0 .. 99, PEOPLE 0 .. 4, MINUTES 1 .. 60).");
        String[] ahead = {"wants ", "pours 1+", "person ", "field ", "field 1 of ", "shed ", "walk ",
            "walk 1 to ", "hat ", "bare ", "minute "};
        String[] behind = {"", "", "", " of 1", "", "", " to 1", "", "", "", ""};
        int[] most = {9999, 9999, 29, 99, 29, 29, 4, 29, 4, 4, 60};
        for (int i = 0; i < ahead.length; i++) {
            String end = behind[i] + ";";
            int least = ahead[i].startsWith("minute") ? 1 : 0;
            Check.fault(ahead[i] + least + end, 0, -1);
            Check.fault(ahead[i] + most[i] + end, 0, -1);
            Check.fault(ahead[i] + "000" + most[i] + end, 0, -1);
            Check.fault(ahead[i] + (most[i] + 1) + end, 2, ahead[i].length());
            Check.fault(ahead[i] + "10000" + end, 2, ahead[i].length());
            // these would be small if they went round
            Check.fault(ahead[i] + "4294967297" + end, 2, ahead[i].length());
            Check.fault(ahead[i] + "18446744073709551617" + end, 2, ahead[i].length());
            Check.fault(ahead[i] + "9".repeat(200) + end, 2, ahead[i].length());
        }
        Check.fault("minute 0;", 2, 7);
        Check.fault("minute 000;", 2, 7);
        Check.fault("hat -1;", 1, 4);
    }

    private static void tooDeep() {
        Doc.part("3 the 9th of ( not share waters if and - (of one ONE) that are open around one another (at it; share till its second is whole).");
        String[] opens = {"(", "-", "waters ", "share ", "share 1 of ", "if ", "if 1<", "if 1<1 then ",
            "if 1<1 then 1 else ", "if not "};
        int[] weight = {1, 1, 1, 1, 1, 1, 1, 1, 1, 2};
        for (int i = 0; i < opens.length; i++) {
            // the others stand around it: the 9th is the "(" behind it, or a part of it
            for (int around = 8 - weight[i]; around <= 9; around++) {
                String text = "wants " + "(".repeat(around) + opens[i] + "(";
                int depth = around + weight[i] + 1;
                int place = around >= 9 ? 14 : around == 8 ? 14 : around + weight[i] == 9 ? text.length() - 5
                        : text.length() - 1;
                Check.fault(text, depth > 8 ? 3 : 1, depth > 8 ? place : text.length());
            }
        }
        Check.fault("wants " + "(".repeat(8) + "1" + ")".repeat(8) + "+(1);", 0, -1);
        Check.fault("wants " + "-".repeat(8) + "1-" + "-".repeat(8) + "1;", 0, -1);
        Check.fault("wants " + "-".repeat(8) + "1+" + "-".repeat(9) + "1;", 3, 24);
        Check.fault("wants " + "waters ".repeat(8) + "1;", 0, -1);
        Check.fault("wants " + "waters ".repeat(9) + "1;", 3, 62);
        Check.fault("wants " + "share 1 of ".repeat(8) + "1;", 0, -1);
        Check.fault("wants " + "share 1 of ".repeat(9) + "1;", 3, 94);
        Check.fault("wants " + "share ".repeat(8) + "1" + " of 1".repeat(8) + ";", 0, -1);
        Check.fault("wants " + "share ".repeat(9) + "1" + " of 1".repeat(9) + ";", 3, 54);
        // behind the second of share it is no longer open; nor is waters, -, not behind theirs
        Check.fault("wants " + "(".repeat(7) + "share 1 of 1+(1)" + ")".repeat(7) + ";", 0, -1);
        Check.fault("wants " + "(".repeat(7) + "share (1) of 1" + ")".repeat(7) + ";", 3, 19);
        Check.fault("wants " + "(".repeat(7) + "share 1 of (1)" + ")".repeat(7) + ";", 3, 24);
        Check.fault("wants " + "(".repeat(7) + "waters 1+(1)" + ")".repeat(7) + ";", 0, -1);
        Check.fault("wants " + "(".repeat(7) + "-1+(1)" + ")".repeat(7) + ";", 0, -1);
        Check.fault("wants " + "(".repeat(6) + "if not 1<1 and (1)<1 then 1 else 1 end" + ")".repeat(6) + ";", 0, -1);
        Check.fault("wants " + "(".repeat(6) + "if not (1)<1 then 1 else 1 end" + ")".repeat(6) + ";", 3, 19);
        Check.fault("wants " + "(".repeat(7) + "if not 1<1 then 1 else 1 end" + ")".repeat(7) + ";", 3, 16);
        Check.fault("wants if " + "not ".repeat(7) + "1<1 then 1 else 1 end;", 0, -1);
        Check.fault("wants if " + "not ".repeat(8) + "1<1 then 1 else 1 end;", 3, 37);
        Check.fault("wants " + "if 1<1 then ".repeat(8) + "1" + " else 1 end".repeat(8) + ";", 0, -1);
        Check.fault("wants " + "if 1<1 then ".repeat(9) + "1", 3, 102);
        Check.fault("wants 1;pours " + "(".repeat(9), 3, 22);
    }

    private static void twice() {
        Doc.part("4 wants, pours for the second time (at it).");
        Check.fault("wants 1;wants 1;", 4, 8);
        Check.fault("wants 1;  wants", 4, 10);
        Check.fault("pours 1;pours 1;", 4, 8);
        Check.fault("wants 1;pours 1;draw;wants ?", 4, 21);
        Check.fault("draw;draw;", 0, -1);
        RainOnTheOne x = new RainOnTheOne();
        Check.due("once in each text", Check.text(x, "wants 1;pours 1;"), 0);
        Check.due("once in each text", Check.text(x, "wants 1;pours 1;"), 1);
        Check.due("a fault", Check.text(x, "wants 1;wants 1;"), -1);
        Check.due("once behind a fault", Check.text(x, "wants 1;pours 1;"), 2);
    }

    private static void nameOfNoClause() {
        Doc.part("5 a NAME that isn't of that CLAUSE (at it).");
        Check.fault("pours steps;", 5, 6);
        Check.fault("pours 1+  steps;", 5, 10);
        Check.fault("pours if 1<2 then 1 else steps end;", 5, 25);
        Check.fault("pours share 1 of steps;", 5, 17);
        Check.fault("pours 1;wants steps;", 0, -1);
        Check.fault("wants steps;pours steps;", 5, 18);
        Check.fault("pours Steps;", 1, 6);
        Check.fault("pours step;", 1, 6);
        Check.fault("person steps;", 1, 7);
    }

    private static void tooManyClauses() {
        Doc.part("6 the 25th CLAUSE (at its first TOKEN).");
        String full = "wants 1;pours 1;" + "draw;".repeat(22);
        Check.fault(full, 0, -1);
        Check.fault(full + " \n", 0, -1);
        Check.fault(full + " draw;", 6, 127);
        Check.fault(full + "minute 99999", 6, 126);
        Check.fault(full + "wants 1;", 4, 126);
        Check.fault(full + "foo", 1, 126);
        Check.fault("draw;".repeat(24) + "pours", 6, 120);
        Check.fault("draw;".repeat(60), 6, 120);
    }

    private static void ruling() {
        Doc.part("THE TEXT (told; at first none) rules.");
        RainOnTheOne x = new RainOnTheOne();
        Check.due("at first none", x.about(2), -1);
        x.person(5, true);
        x.person(1, true);
        Check.text(x, "wants steps;pours 9;");
        Check.due("read, not told", x.is(3), 1);
        x.by(0);
        Check.due("it rules", x.is(3), 0);
        Check.due("and pours", x.of(0, 5), 9);
        x.by(-1);
        Check.due("none", x.is(3), 1);
        Check.due("none", x.of(0, 5), 3);
    }

    private static void wantsWithin() {
        Doc.part("wants: -999 at least, 999 at most; without: 99 less STEPS.");
        says("999", 999);
        says("1000", 999);
        says("9999*9999", 999);
        says("-999", -999);
        says("-1000", -999);
        says("-9999*9999", -999);
        RainOnTheOne x = new RainOnTheOne();
        x.person(0, true);
        x.person(29, true);
        Check.text(x, "pours 9;");
        for (int t = -1; t < 1; t++) {
            x.by(t);
            Check.due("without, there", x.of(0, 4), 99);
            Check.due("without, the farthest", x.of(1, 4), 90);
        }
        x.shed(28, true);
        x.shed(23, true);
        Check.due("without, and no STEPS: 99 less 99", x.of(1, 4), 0);
    }

    private static void poursWithin() {
        Doc.part("pours: 0 at least, 9 at most; without: 3.");
        int[] said = {-9999, -1, 0, 1, 8, 9, 10, 9999};
        int[] due = {0, 0, 0, 1, 8, 9, 9, 9};
        for (int i = 0; i < said.length; i++) {
            RainOnTheOne x = new RainOnTheOne();
            x.person(0, true);
            x.by(Check.text(x, "pours " + said[i] + ";"));
            Check.due("pours " + said[i], x.of(0, 5), due[i]);
            Check.due("it rains", x.minute(1), 1);
            Check.due("water", x.ofCell(0, 1), due[i]);
        }
        RainOnTheOne x = new RainOnTheOne();
        x.person(0, true);
        Check.due("without a text", x.of(0, 5), 3);
        x.by(Check.text(x, "wants 1;"));
        Check.due("without a law", x.of(0, 5), 3);
    }

    private static void played() {
        Doc.part("PLAYED by a TEXT: its CLAUSES but laws, in their order, as by hand; one that can't be ends it (of so many MINUTES those that can pass do): its number among all CLAUSES (from 0); what was done stays.");
        String[] texts = {"draw;", "hat 0;", "bare 4;", "walk 0 to 1;", "shed 0;", "shed 1;shed 1;",
            "shed 1;person 1;", "person 1;shed 1;", "person 1;bare 0;", "person 1;hat 0;hat 0;",
            "person 1;walk 0 to 1;", "person 5;walk 0 to 6;", "person 1;walk 1 to 2;",
            "wants 1;pours 1;draw;", "person 1;".repeat(6), "field 1 of 1;field 1 of 1;draw;minute 1;"};
        int[] ends = {0, 0, 0, 0, 0, 1, 1, 1, 1, 2, 1, 1, 1, 2, 5, 2};
        for (int i = 0; i < texts.length; i++) {
            RainOnTheOne x = new RainOnTheOne();
            Check.due("text " + texts[i], Check.text(x, texts[i]), 0);
            Check.due("played " + texts[i], x.played(0), ends[i]);
            Check.due("nothing behind it is done", x.is(0), 0);
        }
        RainOnTheOne x = Made.late(9990);
        Check.text(x, "minute 9;");
        Check.text(x, "wants 1;minute 10;person 0;");
        Check.due("ten can't pass", x.played(1), 1);
        Check.due("nine do", x.is(0), 9999);
        Check.due("nothing behind it", x.about(0), 0);
        Check.due("none can pass", x.played(0), 0);
        Check.due("minute", x.is(0), 9999);
        for (int i = 0; i < 9; i++) {
            x.undo();
        }
        Check.due("each of them is a STEP", x.is(0), 9990);
        Check.due("just nine", x.played(0), -1);
        Check.due("minute", x.is(0), 9999);
    }
}
