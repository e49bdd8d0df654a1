import java.util.Random;

/** Runs of random calls: the class must answer just what the naive Model answers. */
public final class RandomTest {
    private static final String[] WORDS = {"wants", "pours", "person", "field", "shed", "walk", "hat",
        "bare", "draw", "minute", "who", "wet", "been", "at", "need", "water", "steps", "share",
        "waters", "if", "not", "of", "to", "then", "else", "end", "or", "and", "<", ">", "=", "#", "+",
        "-", "*", "/", "(", ")", ";", "<=", ">=", "0", "7", "29", "30", "60", "61", "99", "100", "9999",
        "10000", "foo", "Wants", "?", "\t", "\u00e9", "007", "00010000", "123456789012345678901"};

    private final Random random;
    private final RainOnTheOne real = new RainOnTheOne();
    private final Model model = new Model();
    private final String name;
    private final boolean crowded;

    private RandomTest(int seed) {
        random = new Random(seed);
        name = "run " + seed + " ";
        crowded = seed % 3 == 0;
    }

    public static void main(String[] args) {
        int runs = args.length > 0 ? Integer.parseInt(args[0]) : 800;
        int first = args.length > 1 ? Integer.parseInt(args[1]) : 1;
        for (int seed = first; seed < first + runs && Check.wrongSoFar() == 0; seed++) {
            RandomTest run = new RandomTest(seed);
            run.start();
            // a text takes up to 21 calls: so many stay within the 512 that an object is used for
            for (int i = 0; i < 230 && Check.wrongSoFar() == 0; i++) {
                run.call(i);
            }
        }
        Check.finish();
    }

    private int upTo(int n) {
        return random.nextInt(n);
    }

    /** Mostly 0 .. n - 1, now and then beside it. */
    private int about(int n) {
        int odd = upTo(40);
        if (odd == 0) {
            return -1;
        }
        if (odd == 1) {
            return n;
        }
        if (odd == 2) {
            return random.nextInt();
        }
        return upTo(n);
    }

    private int cell() {
        return about(30);
    }

    private int person() {
        return about(5);
    }

    private void due(String call, long got, long want) {
        Check.due(name + call, got, want);
    }

    private void due(String call, boolean got, boolean want) {
        Check.due(name + call, got, want);
    }

    private void start() {
        int sheds = upTo(16);
        for (int i = 0; i < sheds; i++) {
            tellShed();
        }
        for (int i = upTo(6); i > 0; i--) {
            tellPerson();
        }
    }

    private void tellShed() {
        int c = cell();
        boolean is = upTo(4) > 0;
        due("shed " + c + is, real.shed(c, is), model.shed(c, is));
    }

    private void tellPerson() {
        int c = cell();
        boolean without = upTo(3) > 0;
        due("person " + c, real.person(c, without), model.person(c, without));
    }

    private void call(int i) {
        String n = i + ": ";
        int kind = upTo(crowded ? 46 : 58);
        if (kind < 12) {
            told(n, kind);
        } else if (kind < 24) {
            asked(n, kind);
        } else if (kind < 36) {
            thought(n, kind);
        } else if (kind < 46) {
            rest(n, kind);
        } else {
            done(n);
        }
    }

    private void told(String n, int kind) {
        switch (kind) {
            case 0: if (upTo(6) == 0) { tellPerson(); } break;
            case 1: { int c = cell(); int v = about(100); due(n + "field", real.field(c, v), model.field(c, v)); break; }
            case 2: if (upTo(3) == 0) { tellShed(); } break;
            case 3: case 4: tellText(n); break;
            case 5: { int t = about(4); due(n + "by " + t, real.by(t), model.by(t)); break; }
            case 6: { int t = about(4); due(n + "played " + t, real.played(t), model.played(t)); break; }
            case 7: { int v = about(301); due(n + "end " + v, real.end(v), model.end(v)); break; }
            case 8: { int v = random.nextInt(); due(n + "feed", real.feed(v, 1, v, 3, -v), model.feed(v, 1, v, 3, -v)); break; }
            case 9: if (upTo(8) == 0) { due(n + "image", real.image(), model.image()); } break;
            case 10: if (upTo(12) == 0) { due(n + "back", real.back(), model.back()); } break;
            default: done(n); break;
        }
    }

    private void done(String n) {
        switch (upTo(8)) {
            case 0: { int p = person(); int c = cell(); due(n + "walk", real.walk(p, c), model.walk(p, c)); break; }
            case 1: { int p = upTo(5); int at = real.of(p, 0); int c = at + new int[] {-6, -1, 1, 6}[upTo(4)];
                due(n + "walk beside", real.walk(p, c), model.walk(p, c)); break; }
            case 2: { int p = person(); boolean w = upTo(3) > 0; due(n + "hat", real.hat(p, w), model.hat(p, w)); break; }
            case 3: due(n + "draw", real.draw(), model.draw()); break;
            case 4: case 5: { int m = upTo(4) == 0 ? about(61) : 1 + upTo(4); due(n + "minute " + m, real.minute(m), model.minute(m)); break; }
            case 6: { int s = about(10000); int y = upTo(10) == 0 ? about(41) : 1 + upTo(40);
                due(n + "years", real.years(s, y), model.years(s, y)); break; }
            default: for (int k = upTo(4); k >= 0; k--) { due(n + "undo", real.undo(), model.undo()); } break;
        }
    }

    private void asked(String n, int kind) {
        int p = person();
        int c = cell();
        int what = upTo(9) - 1;
        switch (kind) {
            case 12: case 13: case 14: due(n + "of " + p + " " + what, real.of(p, what), model.of(p, what)); break;
            case 15: due(n + "ofCell " + c + " " + what, real.ofCell(c, what), model.ofCell(c, what)); break;
            case 16: case 17: due(n + "is " + what, real.is(what), model.is(what)); break;
            case 18: { int i = upTo(32) - 1; due(n + "book", real.book(i, what), model.book(i, what)); break; }
            case 19: case 20: { int m = about(61); int v = upTo(4) - upTo(2);
                due(n + "foretold", real.foretold(m, v, c), model.foretold(m, v, c));
                due(n + "foretold person", real.foretold(m, v, p), model.foretold(m, v, p)); break; }
            case 21: due(n + "when " + p, real.when(p), model.when(p)); break;
            case 22: due(n + "fault", real.fault(what), model.fault(what)); break;
            default: due(n + "about " + what, real.about(what), model.about(what)); break;
        }
    }

    private void thought(String n, int kind) {
        int a = cell();
        int b = cell();
        switch (kind) {
            case 24: due(n + "steps", real.steps(a, b), model.steps(a, b)); break;
            case 25: case 26: { int i = upTo(8) - 1; due(n + "way", real.way(a, b, i), model.way(a, b, i)); break; }
            case 27: { int s = upTo(8) == 0 ? upTo(5) - 1 : 1 + upTo(2);
                due(n + "caught", real.caught(a, b, s), model.caught(a, b, s)); break; }
            case 28: case 29: { int s = upTo(8) == 0 ? upTo(5) - 1 : 1 + upTo(2);
                due(n + "flee", real.flee(a, b, s), model.flee(a, b, s)); break; }
            case 30: case 31: { int cells = 0; for (int k = upTo(7); k > 0; k--) { cells |= 1 << upTo(upTo(20) == 0 ? 32 : 30); }
                int i = upTo(7) - 1; due(n + "tour " + a + " " + cells + " " + i, real.tour(a, cells, i), model.tour(a, cells, i)); break; }
            case 32: case 33: if (upTo(4) == 0) { due(n + "cut " + a + " " + b, real.cut(a, b), model.cut(a, b)); } break;
            case 34: due(n + "narrows", real.narrows(), model.narrows()); break;
            default: due(n + "near", real.near(a), model.near(a)); break;
        }
    }

    private void rest(String n, int kind) {
        int p = person();
        int k = upTo(9);
        int d = upTo(9) - 1;
        boolean flag = upTo(2) == 0;
        switch (kind) {
            case 36: { int v = about(100); due(n + "cost", real.cost(p, d, v), model.cost(p, d, v)); break; }
            case 37: due(n + "roster " + k + " " + d, real.roster(k, d), model.roster(k, d)); break;
            case 38: { int e = upTo(9) - 1; due(n + "swap", real.swap(k, d, e), model.swap(k, d, e)); break; }
            case 39: { int c = cell(); int v = upTo(3) == 0 ? about(31) : upTo(4); due(n + "seen", real.seen(c, v), model.seen(c, v)); break; }
            case 40: due(n + "from", real.from(flag), model.from(flag)); break;
            case 41: { int m = upTo(12); due(n + "likely " + m + " " + d, real.likely(m, d, flag), model.likely(m, d, flag)); break; }
            case 42: sayOne(n, p); break;
            case 43: due(n + "whose", real.whose(), model.whose()); break;
            case 44: due(n + "thirsty", real.thirsty(flag), model.thirsty(flag));
                due(n + "driest", real.driest(), model.driest());
                due(n + "wettest", real.wettest(), model.wettest()); break;
            default: due(n + "ledger", real.ledger(p), model.ledger(p));
                due(n + "days", real.days(flag), model.days(flag)); break;
        }
    }

    private void sayOne(String n, int p) {
        int wants = upTo(3) == 0 ? upTo(2100) - 1050 : real.of(p, 4);
        due(n + "said", real.said(p, wants), model.said(p, wants));
    }

    // ------------------------------------------------------------------ texts

    private void tellText(String n) {
        String text = madeText();
        if (upTo(2) == 0) {
            text = spoilt(text);
        }
        if (text.length() > 300) {
            text = text.substring(0, 300);
        }
        Check.tape(real, text);
        model.end(0);
        for (int i = 0; i < text.length(); i += 20) {
            int[] w = new int[5];
            for (int k = 0; k < 20; k++) {
                w[k / 4] |= (i + k < text.length() ? text.charAt(i + k) & 255 : 0) << 24 - k % 4 * 8;
            }
            model.feed(w[0], w[1], w[2], w[3], w[4]);
        }
        model.end(text.length());
        due(n + "text '" + text + "'", real.text(), model.text());
        due(n + "fault(0) of '" + text + "'", real.fault(0), model.fault(0));
        due(n + "fault(1) of '" + text + "'", real.fault(1), model.fault(1));
        due(n + "bytes", real.about(6), model.about(6));
    }

    private String madeText() {
        StringBuilder text = new StringBuilder();
        int laws = upTo(4);
        if ((laws & 1) != 0) {
            text.append("wants ").append(sum(upTo(5), true)).append(";");
        }
        for (int i = upTo(upTo(10) == 0 ? 27 : 7); i > 0; i--) {
            text.append(deed()).append(";").append(upTo(2) == 0 ? "" : upTo(2) == 0 ? " " : "\n");
        }
        if ((laws & 2) != 0) {
            text.append("pours ").append(sum(upTo(5), upTo(12) == 0)).append(" ;");
        }
        return text.toString();
    }

    private String deed() {
        switch (upTo(9)) {
            case 0: return "person " + cell30();
            case 1: return "field " + upTo(upTo(20) == 0 ? 120 : 100) + " of " + cell30();
            case 2: return "shed " + cell30();
            case 3: return "walk " + upTo(5) + " to " + cell30();
            case 4: return "hat " + upTo(upTo(20) == 0 ? 7 : 5);
            case 5: return "bare " + upTo(5);
            case 6: return "draw";
            default: return "minute " + (upTo(20) == 0 ? upTo(70) : 1 + upTo(9));
        }
    }

    private int cell30() {
        return upTo(upTo(30) == 0 ? 32 : 30);
    }

    private String sum(int depth, boolean steps) {
        StringBuilder text = new StringBuilder(product(depth, steps));
        for (int i = upTo(3); i > 0; i--) {
            text.append(upTo(2) == 0 ? " + " : "-").append(product(depth, steps));
        }
        return text.toString();
    }

    private String product(int depth, boolean steps) {
        StringBuilder text = new StringBuilder(one(depth, steps));
        for (int i = upTo(4) == 0 ? upTo(3) : 0; i > 0; i--) {
            text.append(upTo(2) == 0 ? "*" : " / ").append(one(depth, steps));
        }
        return text.toString();
    }

    private String one(int depth, boolean steps) {
        int kind = depth <= 0 ? upTo(4) : upTo(10);
        int less = depth - 1 - upTo(2);
        switch (kind) {
            case 0: return "" + (upTo(3) == 0 ? upTo(10000) : upTo(40));
            case 1: case 2: case 3: return WORDS[9 + upTo(steps ? 8 : 7)];
            case 4: return "(" + sum(less, steps) + ")";
            case 5: return "-" + one(less, steps);
            case 6: return "share " + one(less, steps) + " of " + one(less, steps);
            case 7: return "waters " + one(less, steps);
            default: return "if " + either(less, steps) + " then " + sum(less, steps) + " else "
                + sum(less, steps) + " end";
        }
    }

    private String either(int depth, boolean steps) {
        String ask = (upTo(4) == 0 ? "not " : "") + sum(depth, steps)
            + new String[] {"<", "<=", ">", ">=", "=", "#"}[upTo(6)] + sum(depth - 1, steps);
        int more = upTo(5);
        return more > 1 ? ask : ask + (more == 0 ? " or " : " and ") + either(depth - 1, steps);
    }

    private String spoilt(String text) {
        StringBuilder spoilt = new StringBuilder(text);
        for (int i = 1 + upTo(2); i > 0; i--) {
            int at = upTo(spoilt.length() + 1);
            switch (upTo(4)) {
                case 0: spoilt.insert(at, " " + WORDS[upTo(WORDS.length)] + " "); break;
                case 1: spoilt.setLength(at); break;
                case 2: if (at < spoilt.length()) { spoilt.deleteCharAt(at); } break;
                default: spoilt.insert(at, "((((-- not waters if share ".substring(upTo(20))); break;
            }
        }
        return spoilt.toString();
    }
}
