import java.math.BigInteger;
import java.util.ArrayDeque;
import java.util.ArrayList;
import java.util.Arrays;
import java.util.List;

/**
 * The document once more, in the most naive way: lists, trees, brute force. RandomTest compares it
 * with the class; nothing of the class is used here.
 */
final class Model {
    static final int NONE = -1;

    static final class Person implements Cloneable {
        int at;
        boolean without;
        int wet;
        int been;

        Person copy() {
            Person p = new Person();
            p.at = at;
            p.without = without;
            p.wet = wet;
            p.been = been;
            return p;
        }
    }

    /** What a STEP can change. */
    static final class Weather {
        List<Person> people = new ArrayList<>();
        int[] water = new int[30];
        int shower = 0;
        int minute = 0;
        int x = 241;
        List<int[]> book = new ArrayList<>();

        Weather copy() {
            Weather w = new Weather();
            for (Person p : people) {
                w.people.add(p.copy());
            }
            w.water = water.clone();
            w.shower = shower;
            w.minute = minute;
            w.x = x;
            w.book = new ArrayList<>(book);
            return w;
        }
    }

    /** All that an IMAGE has. */
    static final class All {
        Weather w = new Weather();
        boolean[] shed = new boolean[30];
        int[] need = new int[30];
        int[][] cost = new int[5][7];
        List<int[]> seen = new ArrayList<>();
        List<int[]> said = new ArrayList<>();
        List<Text> texts = new ArrayList<>();
        int ruling = NONE;
        ArrayDeque<Weather> past = new ArrayDeque<>();

        All copy() {
            All a = new All();
            a.w = w.copy();
            a.shed = shed.clone();
            a.need = need.clone();
            for (int p = 0; p < 5; p++) {
                a.cost[p] = cost[p].clone();
            }
            a.seen = new ArrayList<>(seen);
            a.said = new ArrayList<>(said);
            a.texts = new ArrayList<>(texts);
            a.ruling = ruling;
            for (Weather old : past) {
                a.past.addLast(old.copy());
            }
            return a;
        }
    }

    interface Sum {
        long ask(All a, Weather w, int person, int steps);
    }

    interface Asked {
        boolean ask(All a, Weather w, int person, int steps);
    }

    static final class Text {
        List<String> heads = new ArrayList<>();
        List<int[]> numbers = new ArrayList<>();
        Sum wants = null;
        Sum pours = null;
    }

    static final class Fault extends RuntimeException {
        final int what;
        final int place;

        Fault(int what, int place) {
            this.what = what;
            this.place = place;
        }
    }

    // ------------------------------------------------------------------ reading

    static final class Parser {
        private static final List<String> NAMES =
                List.of("minute", "who", "wet", "been", "at", "need", "water", "steps");
        private final String tape;
        private int next = 0;
        private int place = 0;
        private String token = "";
        private int open = 0;
        private boolean pours = false;

        Parser(String tape) {
            this.tape = tape;
            move();
        }

        /** "" is the end, "?" what is no token. */
        private void move() {
            while (next < tape.length() && " \n".indexOf(tape.charAt(next)) >= 0) {
                next++;
            }
            place = next;
            if (next == tape.length()) {
                token = "";
                return;
            }
            String rest = tape.substring(next);
            for (String kind : new String[] {"[a-zA-Z]+", "[0-9]+", "<=|>=|[<>=#+*/();-]"}) {
                java.util.regex.Matcher m = java.util.regex.Pattern.compile(kind).matcher(rest);
                if (m.lookingAt()) {
                    token = m.group();
                    next += token.length();
                    return;
                }
            }
            token = "?";
            next++;
        }

        private Fault fault(int what) {
            return new Fault(what, place);
        }

        private void need(String due) {
            if (!token.equals(due)) {
                throw fault(1);
            }
            move();
        }

        private int number(int least, int most) {
            if (token.isEmpty() || !Character.isDigit(token.charAt(0))) {
                throw fault(1);
            }
            BigInteger value = new BigInteger(token);
            if (value.compareTo(BigInteger.valueOf(most)) > 0
                    || value.compareTo(BigInteger.valueOf(least)) < 0) {
                throw fault(2);
            }
            move();
            return value.intValue();
        }

        Text text() {
            Text t = new Text();
            while (!token.isEmpty()) {
                clause(t);
            }
            return t;
        }

        private void clause(Text t) {
            String head = token;
            List<String> heads = List.of("wants", "pours", "person", "field", "shed", "walk", "hat",
                    "bare", "draw", "minute");
            if (!heads.contains(head)) {
                throw fault(1);
            }
            if (head.equals("wants") && t.wants != null || head.equals("pours") && t.pours != null) {
                throw fault(4);
            }
            if (t.heads.size() == 24) {
                throw fault(6);
            }
            move();
            int[] numbers = new int[2];
            if (head.equals("wants")) {
                pours = false;
                t.wants = sum();
            } else if (head.equals("pours")) {
                pours = true;
                t.pours = sum();
            } else if (head.equals("person") || head.equals("shed")) {
                numbers[0] = number(0, 29);
            } else if (head.equals("field")) {
                numbers[0] = number(0, 99);
                need("of");
                numbers[1] = number(0, 29);
            } else if (head.equals("walk")) {
                numbers[0] = number(0, 4);
                need("to");
                numbers[1] = number(0, 29);
            } else if (head.equals("hat") || head.equals("bare")) {
                numbers[0] = number(0, 4);
            } else if (head.equals("minute")) {
                numbers[0] = number(1, 60);
            }
            need(";");
            t.heads.add(head);
            t.numbers.add(numbers);
        }

        private static long cap(long n) {
            return n > 1000000 ? 1000000 : n < -1000000 ? -1000000 : n;
        }

        private Sum sum() {
            Sum left = product();
            while (token.equals("+") || token.equals("-")) {
                boolean plus = token.equals("+");
                move();
                Sum a = left;
                Sum b = product();
                left = (s, w, p, n) ->
                        cap(plus ? a.ask(s, w, p, n) + b.ask(s, w, p, n)
                                : a.ask(s, w, p, n) - b.ask(s, w, p, n));
            }
            return left;
        }

        private Sum product() {
            Sum left = one();
            while (token.equals("*") || token.equals("/")) {
                boolean times = token.equals("*");
                move();
                Sum a = left;
                Sum b = one();
                left = (s, w, p, n) -> {
                    long u = a.ask(s, w, p, n);
                    long v = b.ask(s, w, p, n);
                    return cap(times ? u * v : v == 0 ? 0 : u / v);
                };
            }
            return left;
        }

        private void opens() {
            if (open == 8) {
                throw fault(3);
            }
            open++;
            move();
        }

        private Sum one() {
            if (!token.isEmpty() && Character.isDigit(token.charAt(0))) {
                long value = number(0, 9999);
                return (s, w, p, n) -> value;
            }
            if (NAMES.contains(token)) {
                return name();
            }
            if (token.equals("(")) {
                opens();
                Sum inner = sum();
                need(")");
                open--;
                return inner;
            }
            if (token.equals("-")) {
                opens();
                Sum inner = one();
                open--;
                return (s, w, p, n) -> -inner.ask(s, w, p, n);
            }
            if (token.equals("share")) {
                opens();
                Sum a = one();
                need("of");
                Sum b = one();
                open--;
                return (s, w, p, n) -> {
                    long v = b.ask(s, w, p, n);
                    return v == 0 ? 0 : cap(100 * a.ask(s, w, p, n) / v);
                };
            }
            if (token.equals("waters")) {
                opens();
                Sum a = one();
                open--;
                return (s, w, p, n) -> {
                    long c = a.ask(s, w, p, n);
                    return c >= 0 && c < 30 ? w.water[(int) c] : 0;
                };
            }
            if (token.equals("if")) {
                opens();
                Asked a = either();
                need("then");
                Sum yes = sum();
                need("else");
                Sum no = sum();
                need("end");
                open--;
                return (s, w, p, n) -> a.ask(s, w, p, n) ? yes.ask(s, w, p, n) : no.ask(s, w, p, n);
            }
            throw fault(1);
        }

        private Sum name() {
            String name = token;
            if (pours && name.equals("steps")) {
                throw fault(5);
            }
            move();
            switch (name) {
                case "minute": return (s, w, p, n) -> w.minute;
                case "who": return (s, w, p, n) -> p;
                case "wet": return (s, w, p, n) -> w.people.get(p).wet;
                case "been": return (s, w, p, n) -> w.people.get(p).been;
                case "at": return (s, w, p, n) -> w.people.get(p).at;
                case "need": return (s, w, p, n) -> s.need[w.people.get(p).at];
                case "water": return (s, w, p, n) -> w.water[w.people.get(p).at];
                default: return (s, w, p, n) -> n == NONE ? 99 : n;
            }
        }

        private Asked either() {
            Asked left = both();
            while (token.equals("or")) {
                move();
                Asked a = left;
                Asked b = both();
                left = (s, w, p, n) -> a.ask(s, w, p, n) | b.ask(s, w, p, n);
            }
            return left;
        }

        private Asked both() {
            Asked left = ask();
            while (token.equals("and")) {
                move();
                Asked a = left;
                Asked b = ask();
                left = (s, w, p, n) -> a.ask(s, w, p, n) & b.ask(s, w, p, n);
            }
            return left;
        }

        private Asked ask() {
            if (token.equals("not")) {
                opens();
                Asked inner = ask();
                open--;
                return (s, w, p, n) -> !inner.ask(s, w, p, n);
            }
            Sum a = sum();
            String sign = token;
            if (!List.of("<", "<=", ">", ">=", "=", "#").contains(sign)) {
                throw fault(1);
            }
            move();
            Sum b = sum();
            return (s, w, p, n) -> {
                int order = Long.compare(a.ask(s, w, p, n), b.ask(s, w, p, n));
                switch (sign) {
                    case "<": return order < 0;
                    case "<=": return order <= 0;
                    case ">": return order > 0;
                    case ">=": return order >= 0;
                    case "=": return order == 0;
                    default: return order != 0;
                }
            };
        }
    }

    // ------------------------------------------------------------------ state

    private All a = new All();
    private All kept;
    private StringBuilder tape = new StringBuilder();
    private int fault = NONE;
    private int faultPlace = NONE;

    Model() {
        for (int[] line : a.cost) {
            Arrays.fill(line, 10);
        }
        kept = a.copy();
    }

    private boolean cell(int c) {
        return c >= 0 && c < 30;
    }

    private boolean free(int c) {
        return cell(c) && !a.shed[c];
    }

    private boolean there(int p) {
        return p >= 0 && p < a.w.people.size();
    }

    private static final List<List<Integer>> SIDES = allSides();

    private static List<List<Integer>> allSides() {
        List<List<Integer>> all = new ArrayList<>();
        for (int c = 0; c < 30; c++) {
            List<Integer> found = new ArrayList<>();
            for (int side = 0; side < 4; side++) {
                if (side(c, side) != NONE) {
                    found.add(side(c, side));
                }
            }
            all.add(found);
        }
        return all;
    }

    /** Lowest first: above, left, right, below. */
    private static List<Integer> sides(int c) {
        return SIDES.get(c);
    }

    private static int side(int c, int side) {
        int r = c / 6 + new int[] {-1, 0, 0, 1}[side];
        int k = c % 6 + new int[] {0, -1, 1, 0}[side];
        return r < 0 || r > 4 || k < 0 || k > 5 ? NONE : 6 * r + k;
    }

    private int[] distances(int from, boolean[] shut) {
        int[] d = new int[30];
        Arrays.fill(d, NONE);
        if (shut[from]) {
            return d;
        }
        ArrayDeque<Integer> queue = new ArrayDeque<>();
        queue.add(from);
        d[from] = 0;
        while (!queue.isEmpty()) {
            int c = queue.remove();
            for (int n : sides(c)) {
                if (!shut[n] && d[n] == NONE) {
                    d[n] = d[c] + 1;
                    queue.add(n);
                }
            }
        }
        return d;
    }

    private void keep() {
        a.past.addLast(a.w.copy());
        if (a.past.size() > 30) {
            a.past.removeFirst();
        }
    }

    private int wants(Weather w, int text, int p) {
        int steps = distances(w.shower, a.shed)[w.people.get(p).at];
        if (text == NONE || a.texts.get(text).wants == null) {
            return steps == NONE ? 0 : 99 - steps;
        }
        long said = a.texts.get(text).wants.ask(a, w, p, steps);
        return (int) Math.max(-999, Math.min(999, said));
    }

    private int pours(Weather w, int p) {
        if (a.ruling == NONE || a.texts.get(a.ruling).pours == null) {
            return 3;
        }
        return (int) Math.max(0, Math.min(9, a.texts.get(a.ruling).pours.ask(a, w, p, NONE)));
    }

    private int goal(Weather w) {
        int best = NONE;
        int[] d = distances(w.shower, a.shed);
        for (int p = w.people.size() - 1; p >= 0; p--) {
            if (w.people.get(p).without && d[w.people.get(p).at] != NONE
                    && (best == NONE || wants(w, a.ruling, p) >= wants(w, a.ruling, best))) {
                best = p;
            }
        }
        return best;
    }

    private int redraw(Weather w) {
        int x = w.x;
        w.x = (w.x * 487 + 373) % 30671;
        return x;
    }

    /** Who got wet; NONE nobody. */
    private int pass(Weather w) {
        int goal = goal(w);
        int wet = NONE;
        if (goal == NONE) {
            int c = side(w.shower, redraw(w) % 4);
            if (free(c)) {
                w.shower = c;
            }
        } else if (w.people.get(goal).at == w.shower) {
            Person p = w.people.get(goal);
            wet = goal;
            int came = Math.min(pours(w, goal), 99 - w.water[p.at]);
            w.water[p.at] += came;
            p.wet = Math.min(99, p.wet + 3);
            p.been = Math.min(999, p.been + 1);
            w.book.add(new int[] {w.minute, goal, p.at, came});
            if (w.book.size() > 30) {
                w.book.remove(0);
            }
        } else {
            int[] d = distances(w.people.get(goal).at, a.shed);
            int at = w.shower;
            for (int n : sides(at)) {
                if (d[n] == d[at] - 1 && d[n] != NONE) {
                    w.shower = n;
                    break;
                }
            }
        }
        for (int p = 0; p < w.people.size(); p++) {
            if (p != wet && w.people.get(p).wet > 0) {
                w.people.get(p).wet--;
            }
        }
        w.minute++;
        return wet;
    }

    // ------------------------------------------------------------------ the calls

    int person(int c, boolean without) {
        if (!free(c) || a.w.people.size() == 5) {
            return NONE;
        }
        Person p = new Person();
        p.at = c;
        p.without = without;
        a.w.people.add(p);
        return a.w.people.size() - 1;
    }

    boolean field(int c, int need) {
        if (!cell(c) || need < 0 || need > 99) {
            return false;
        }
        a.need[c] = need;
        return true;
    }

    boolean shed(int c, boolean is) {
        if (!cell(c) || a.shed[c] == is || a.w.shower == c) {
            return false;
        }
        for (Person p : a.w.people) {
            if (p.at == c) {
                return false;
            }
        }
        a.shed[c] = is;
        return true;
    }

    int feed(int v, int b, int c, int d, int e) {
        if (tape.length() > 280) {
            return NONE;
        }
        for (int word : new int[] {v, b, c, d, e}) {
            tape.append((char) (word >>> 24)).append((char) (word >> 16 & 255));
            tape.append((char) (word >> 8 & 255)).append((char) (word & 255));
        }
        return tape.length();
    }

    int end(int n) {
        if (n < 0 || n > tape.length()) {
            return NONE;
        }
        tape.setLength(n);
        return n;
    }

    int text() {
        if (a.texts.size() == 4) {
            return NONE;
        }
        String read = tape.toString();
        tape.setLength(0);
        try {
            a.texts.add(new Parser(read).text());
            fault = 0;
            faultPlace = NONE;
            return a.texts.size() - 1;
        } catch (Fault f) {
            fault = f.what;
            faultPlace = f.place;
            return NONE;
        }
    }

    int fault(int what) {
        return what == 0 ? fault : what == 1 ? faultPlace : NONE;
    }

    boolean by(int text) {
        if (text < NONE || text >= a.texts.size()) {
            return false;
        }
        a.ruling = text;
        return true;
    }

    boolean walk(int person, int c) {
        if (!there(person) || !free(c) || !sides(a.w.people.get(person).at).contains(c)) {
            return false;
        }
        keep();
        a.w.people.get(person).at = c;
        return true;
    }

    boolean hat(int person, boolean without) {
        if (!there(person) || a.w.people.get(person).without == without) {
            return false;
        }
        keep();
        a.w.people.get(person).without = without;
        return true;
    }

    int draw() {
        if (a.w.people.isEmpty()) {
            return NONE;
        }
        keep();
        int who = redraw(a.w) % a.w.people.size();
        for (int p = 0; p < a.w.people.size(); p++) {
            a.w.people.get(p).without = p == who;
        }
        return who;
    }

    int minute(int n) {
        if (n < 1 || n > 60 || a.w.minute + n > 9999) {
            return NONE;
        }
        int rained = 0;
        for (int i = 0; i < n; i++) {
            keep();
            rained += pass(a.w) == NONE ? 0 : 1;
        }
        return rained;
    }

    int played(int text) {
        if (text < 0 || text >= a.texts.size()) {
            return -2;
        }
        Text t = a.texts.get(text);
        for (int i = 0; i < t.heads.size(); i++) {
            int u = t.numbers.get(i)[0];
            int v = t.numbers.get(i)[1];
            boolean could = true;
            switch (t.heads.get(i)) {
                case "person": could = person(u, true) != NONE; break;
                case "field": could = field(v, u); break;
                case "shed": could = shed(u, true); break;
                case "walk": could = walk(u, v); break;
                case "hat": could = hat(u, false); break;
                case "bare": could = hat(u, true); break;
                case "draw": could = draw() != NONE; break;
                case "minute":
                    for (int m = 0; m < u && could; m++) {
                        could = minute(1) != NONE;
                    }
                    break;
                default: break;
            }
            if (!could) {
                return i;
            }
        }
        return NONE;
    }

    int years(int seed, int n) {
        if (seed < 0 || seed > 9999 || n < 1 || n > 40) {
            return NONE;
        }
        keep();
        a.w.x = seed * 2 + 241;
        for (int i = 0; i < n; i++) {
            int x = redraw(a.w);
            if (x % 6 >= 3) {
                if (a.w.minute < 9999) {
                    pass(a.w);
                }
            } else if (!a.w.people.isEmpty()) {
                Person p = a.w.people.get(x % a.w.people.size());
                if (x % 6 == 2) {
                    p.without = x % 4 > 0;
                } else if (free(side(p.at, x / 6 % 4))) {
                    p.at = side(p.at, x / 6 % 4);
                }
            }
        }
        return a.w.minute;
    }

    int undo() {
        if (a.past.isEmpty()) {
            return NONE;
        }
        Weather old = a.past.removeLast();
        for (int p = old.people.size(); p < a.w.people.size(); p++) {
            old.people.add(a.w.people.get(p));
        }
        a.w = old;
        return a.past.size();
    }

    int of(int person, int what) {
        if (!there(person) || what < 0 || what > 5) {
            return NONE;
        }
        Person p = a.w.people.get(person);
        switch (what) {
            case 0: return p.at;
            case 1: return p.without ? 1 : 0;
            case 2: return p.wet;
            case 3: return p.been;
            case 4: return wants(a.w, a.ruling, person);
            default: return pours(a.w, person);
        }
    }

    int ofCell(int c, int what) {
        if (!cell(c) || what < 0 || what > 3) {
            return NONE;
        }
        int bits = 0;
        for (int p = 0; p < a.w.people.size(); p++) {
            bits += a.w.people.get(p).at == c ? 1 << p : 0;
        }
        return new int[] {a.need[c], a.w.water[c], a.shed[c] ? 1 : 0, bits}[what];
    }

    int is(int what) {
        if (what < 0 || what > 3) {
            return -2;
        }
        return new int[] {a.w.minute, a.w.shower, a.w.x, goal(a.w)}[what];
    }

    int book(int i, int what) {
        if (i == NONE) {
            return a.w.book.size();
        }
        if (i < 0 || i >= a.w.book.size() || what < 0 || what > 3) {
            return -2;
        }
        return a.w.book.get(i)[what];
    }

    int foretold(int n, int what, int which) {
        if (n < 1 || n > 60 || what < 0 || what > 2) {
            return NONE;
        }
        if (what == 1 && !there(which) || what == 2 && !cell(which)) {
            return NONE;
        }
        Weather w = a.w.copy();
        for (int i = 0; i < n && w.minute < 9999; i++) {
            pass(w);
        }
        return what == 0 ? w.shower : what == 1 ? w.people.get(which).wet : w.water[which];
    }

    int when(int person) {
        if (!there(person)) {
            return NONE;
        }
        Weather w = a.w.copy();
        for (int i = 1; i <= 60 && w.minute < 9999; i++) {
            if (pass(w) == person) {
                return i;
            }
        }
        return NONE;
    }

    int steps(int u, int v) {
        return cell(u) && cell(v) ? distances(u, a.shed)[v] : NONE;
    }

    int way(int u, int v, int i) {
        if (steps(u, v) == NONE || i < 0) {
            return -2;
        }
        List<Integer> cells = new ArrayList<>();
        int[] d = distances(v, a.shed);
        int at = u;
        while (at != v) {
            for (int n : sides(at)) {
                if (d[n] != NONE && d[n] == d[at] - 1) {
                    at = n;
                    break;
                }
            }
            cells.add(at);
        }
        return i < cells.size() ? cells.get(i) : -2;
    }

    private static final int NEVER = 1000000;

    /** By fleer and shower, the fleer being about to go: in how many turns it is caught. */
    private int[][] chase(int speed) {
        int[][] near = new int[30][];
        for (int c = 0; c < 30; c++) {
            near[c] = distances(c, a.shed);
        }
        int[][] v = new int[30][30];
        for (int f = 0; f < 30; f++) {
            Arrays.fill(v[f], NEVER);
            v[f][f] = 0;
        }
        boolean changed = true;
        while (changed) {
            changed = false;
            int[][] old = new int[30][];
            for (int f = 0; f < 30; f++) {
                old[f] = v[f].clone();
            }
            for (int f = 0; f < 30; f++) {
                for (int s = 0; s < 30; s++) {
                    if (f != s && free(f) && free(s)) {
                        int longest = 0;
                        for (int g : stays(f)) {
                            longest = Math.max(longest, after(g, s, speed, near, old));
                        }
                        changed |= longest != v[f][s];
                        v[f][s] = longest;
                    }
                }
            }
        }
        return v;
    }

    private List<Integer> stays(int f) {
        List<Integer> to = new ArrayList<>();
        for (int c = 0; c < 30; c++) {
            if (free(c) && (c == f || sides(f).contains(c))) {
                to.add(c);
            }
        }
        return to;
    }

    private int after(int g, int s, int speed, int[][] near, int[][] v) {
        if (near[s][g] != NONE && near[s][g] <= speed) {
            return 1;
        }
        int soonest = NEVER;
        for (int t = 0; t < 30; t++) {
            if (near[s][t] != NONE && near[s][t] <= speed) {
                soonest = Math.min(soonest, v[g][t]);
            }
        }
        return soonest >= NEVER ? NEVER : soonest + 1;
    }

    int caught(int person, int shower, int speed) {
        if (!free(person) || !free(shower) || speed < 1 || speed > 2) {
            return NONE;
        }
        int turns = chase(speed)[person][shower];
        return turns >= NEVER ? NONE : turns;
    }

    int flee(int person, int shower, int speed) {
        if (!free(person) || !free(shower) || speed < 1 || speed > 2) {
            return NONE;
        }
        if (person == shower) {
            return person;
        }
        int[][] v = chase(speed);
        int[][] near = new int[30][];
        for (int c = 0; c < 30; c++) {
            near[c] = distances(c, a.shed);
        }
        int best = NONE;
        int longest = NONE;
        for (int g : stays(person)) {
            int turns = after(g, shower, speed, near, v);
            if (turns > longest) {
                longest = turns;
                best = g;
            }
        }
        return best;
    }

    int tour(int from, int cells, int i) {
        List<Integer> all = new ArrayList<>();
        for (int c = 0; c < 32; c++) {
            if ((cells >>> c & 1) == 1) {
                all.add(c);
                if (!free(c)) {
                    return -2;
                }
            }
        }
        if (!free(from) || all.isEmpty() || all.size() > 5 || i < NONE || i >= all.size()) {
            return -2;
        }
        List<List<Integer>> orders = new ArrayList<>();
        orders(new ArrayList<>(), all, orders);
        int fewest = NEVER;
        List<Integer> best = null;
        for (List<Integer> order : orders) {
            int total = 0;
            int at = from;
            for (int c : order) {
                int d = steps(at, c);
                total += d == NONE ? NEVER : d;
                at = c;
            }
            if (total < fewest) {
                fewest = total;
                best = order;
            }
        }
        return best == null ? -2 : i == NONE ? fewest : best.get(i);
    }

    private static void orders(List<Integer> so, List<Integer> left, List<List<Integer>> found) {
        if (left.isEmpty()) {
            found.add(new ArrayList<>(so));
        }
        for (Integer c : left) {
            List<Integer> rest = new ArrayList<>(left);
            rest.remove(c);
            so.add(c);
            orders(so, rest, found);
            so.remove(so.size() - 1);
        }
    }

    int cut(int u, int v) {
        if (!free(u) || !free(v) || u == v || steps(u, v) == 1) {
            return NONE;
        }
        for (int size = 0; ; size++) {
            if (cuts(u, v, a.shed.clone(), 0, size)) {
                return size;
            }
        }
    }

    private boolean cuts(int u, int v, boolean[] shut, int first, int size) {
        if (size == 0) {
            return distances(u, shut)[v] == NONE;
        }
        for (int c = first; c < 30; c++) {
            if (!shut[c] && c != u && c != v) {
                shut[c] = true;
                boolean found = cuts(u, v, shut, c + 1, size - 1);
                shut[c] = false;
                if (found) {
                    return true;
                }
            }
        }
        return false;
    }

    int narrows() {
        int bits = 0;
        for (int c = 0; c < 30; c++) {
            if (!free(c)) {
                continue;
            }
            boolean[] shut = a.shed.clone();
            shut[c] = true;
            for (int u = 0; u < 30; u++) {
                int[] before = distances(u, a.shed);
                int[] after = distances(u, shut);
                for (int v = 0; v < 30; v++) {
                    if (u != c && v != c && before[v] != NONE && after[v] == NONE) {
                        bits |= 1 << c;
                    }
                }
            }
        }
        return bits;
    }

    boolean cost(int person, int day, int cost) {
        if (person < 0 || person > 4 || day < 0 || day > 6 || cost < 0 || cost > 99) {
            return false;
        }
        a.cost[person][day] = cost;
        return true;
    }

    private int[] bestRoster;
    private int bestCost;

    private void rosters(int[] days, int day, int k) {
        if (day == 7) {
            int total = 0;
            int[] times = new int[5];
            for (int d = 0; d < 7; d++) {
                total += a.cost[days[d]][d];
                if (++times[days[d]] > k) {
                    return;
                }
            }
            if (total < bestCost) {
                bestCost = total;
                bestRoster = days.clone();
            }
            return;
        }
        for (int p = 0; p < a.w.people.size(); p++) {
            if (day == 0 || days[day - 1] != p) {
                days[day] = p;
                rosters(days, day + 1, k);
            }
        }
    }

    private boolean rostered(int k) {
        bestRoster = null;
        bestCost = NEVER;
        if (k >= 1 && k <= 7) {
            rosters(new int[7], 0, k);
        }
        return bestRoster != null;
    }

    int roster(int k, int day) {
        if (day < NONE || day > 6 || !rostered(k)) {
            return NONE;
        }
        return day == NONE ? bestCost : bestRoster[day];
    }

    int swap(int k, int u, int v) {
        if (u < 0 || u > 6 || v < 0 || v > 6 || u == v || !rostered(k)) {
            return -10000;
        }
        int[] other = bestRoster.clone();
        other[u] = bestRoster[v];
        other[v] = bestRoster[u];
        int total = 0;
        for (int d = 0; d < 7; d++) {
            total += a.cost[other[d]][d];
        }
        return bestCost - total;
    }

    int seen(int c, int n) {
        if (c == NONE) {
            a.seen.clear();
            return 0;
        }
        if (!cell(c) || n < 0 || n > 30 || a.seen.size() == 6) {
            return -2;
        }
        a.seen.add(new int[] {c, n});
        return a.seen.size();
    }

    int from(boolean many) {
        int bits = 0;
        for (int c = 0; c < 30; c++) {
            if (free(c) && goesSo(c)) {
                bits |= 1 << c;
            }
        }
        return many ? Integer.bitCount(bits) : bits;
    }

    private boolean goesSo(int first) {
        int last = 0;
        for (int[] s : a.seen) {
            last = Math.max(last, s[1]);
        }
        boolean[] can = new boolean[30];
        can[first] = true;
        for (int n = 0; ; n++) {
            for (int[] s : a.seen) {
                for (int c = 0; c < 30; c++) {
                    can[c] &= s[1] != n || s[0] == c;
                }
            }
            if (n == last) {
                break;
            }
            boolean[] next = new boolean[30];
            for (int c = 0; c < 30; c++) {
                if (can[c]) {
                    for (int to : sides(c)) {
                        next[to] |= free(to);
                    }
                }
            }
            can = next;
        }
        for (boolean is : can) {
            if (is) {
                return true;
            }
        }
        return false;
    }

    long likely(int n, int k, boolean low) {
        int m = a.w.people.size();
        if (m == 0 || n < 1 || n > 10 || k < 0 || k > 10) {
            return NONE;
        }
        // by how often it was one: how many rows of draws there are
        long[] rows = new long[12];
        rows[0] = 1;
        long all = 1;
        for (int i = 0; i < n; i++) {
            for (int t = 11; t >= 0; t--) {
                rows[t] = rows[t] * (m - 1) + (t > 0 ? rows[t - 1] : 0);
            }
            all *= m;
        }
        long common = BigInteger.valueOf(rows[k]).gcd(BigInteger.valueOf(all)).longValue();
        return (low ? all : rows[k]) / common;
    }

    int days(boolean low) {
        int m = a.w.people.size();
        if (m == 0) {
            return NONE;
        }
        return (low ? new int[] {1, 1, 2, 3, 12} : new int[] {1, 3, 11, 25, 137})[m - 1];
    }

    int said(int person, int wants) {
        if (person == NONE) {
            a.said.clear();
            return 0;
        }
        if (!there(person) || wants < -999 || wants > 999 || a.said.size() == 8) {
            return -2;
        }
        a.said.add(new int[] {person, wants});
        return a.said.size();
    }

    int whose() {
        int bits = 0;
        for (int t = 0; t < a.texts.size(); t++) {
            boolean all = true;
            for (int[] s : a.said) {
                all &= wants(a.w, t, s[0]) == s[1];
            }
            bits |= all ? 1 << t : 0;
        }
        return bits;
    }

    int thirsty(boolean many) {
        int bits = 0;
        int sum = 0;
        for (int c = 0; c < 30; c++) {
            if (a.w.water[c] < a.need[c]) {
                bits |= 1 << c;
                sum += a.need[c] - a.w.water[c];
            }
        }
        return many ? sum : bits;
    }

    int driest() {
        int best = NONE;
        for (int c = 29; c >= 0; c--) {
            int lack = a.need[c] - a.w.water[c];
            if (lack > 0 && (best == NONE || lack >= a.need[best] - a.w.water[best])) {
                best = c;
            }
        }
        return best;
    }

    int wettest() {
        int best = NONE;
        for (int p = a.w.people.size() - 1; p >= 0; p--) {
            int wet = a.w.people.get(p).wet;
            if (wet > 0 && (best == NONE || wet >= a.w.people.get(best).wet)) {
                best = p;
            }
        }
        return best;
    }

    int near(int c) {
        int best = NONE;
        for (int p = a.w.people.size() - 1; p >= 0; p--) {
            int d = steps(a.w.people.get(p).at, c);
            if (d != NONE && (best == NONE || d <= steps(a.w.people.get(best).at, c))) {
                best = p;
            }
        }
        return best;
    }

    int ledger(int person) {
        if (person != NONE && !there(person)) {
            return -2;
        }
        int sum = 0;
        for (int[] rain : a.w.book) {
            sum += person == NONE || rain[1] == person ? rain[3] : 0;
        }
        return sum;
    }

    int image() {
        kept = a.copy();
        return a.w.minute;
    }

    int back() {
        a = kept.copy();
        return a.w.minute;
    }

    int about(int what) {
        if (what < 0 || what > 6) {
            return -2;
        }
        return new int[] {a.w.people.size(), a.texts.size(), a.ruling, a.past.size(), a.seen.size(),
            a.said.size(), tape.length()}[what];
    }
}
