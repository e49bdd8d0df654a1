/**
 * It rains on the one without: CELLS, PEOPLE, a SHOWER that goes for one of them, laws of whom it
 * wants and how much it pours, and what can be asked of all that. DOC.md says what each call
 * answers; no call throws.
 */
public final class RainOnTheOne {
    public static final int NONE = -1;

    private static final int OTHERS = -2;
    private static final int NO_SWAP = -10000;

    private static final int CELLS = 30;
    private static final int MOST_PEOPLE = 5;
    private static final int MOST_TEXTS = 4;
    private static final int MOST_BYTES = 300;
    private static final int MOST_CLAUSES = 24;
    private static final int MOST_RAINS = 30;
    private static final int MOST_DONE = 30;
    private static final int MOST_SEEN = 6;
    private static final int MOST_SAID = 8;
    private static final int MOST_WENT = 30;
    private static final int MOST_NEED = 99;
    private static final int MOST_WATER = 99;
    private static final int MOST_WET = 99;
    private static final int MOST_BEEN = 999;
    private static final int MOST_COST = 99;
    private static final int MOST_WANTS = 999;
    private static final int MOST_POURS = 9;
    private static final int LAST_MINUTE = 9999;
    private static final int MOST_MINUTES = 60;
    private static final int MOST_SEED = 9999;
    private static final int MOST_YEARS = 40;
    private static final int MOST_DRAWS = 10;
    private static final int DAYS = 7;
    private static final int FIRST_X = 241;
    private static final int FIRST_COST = 10;
    private static final int NO_STEPS = 99;

    // Where each thing stands in the row that is the state. A STEP keeps what is ahead of KEPT, a
    // MINUTE asks for what is ahead of SCENE alone, an IMAGE is the whole row.
    private static final int AT = 0;
    private static final int WITHOUT = AT + MOST_PEOPLE;
    private static final int WET = WITHOUT + MOST_PEOPLE;
    private static final int BEEN = WET + MOST_PEOPLE;
    private static final int WATER = BEEN + MOST_PEOPLE;
    private static final int SHOWER = WATER + CELLS;
    private static final int MINUTE = SHOWER + 1;
    private static final int X = MINUTE + 1;
    private static final int RAINS = X + 1;
    private static final int BOOK = RAINS + 1;
    private static final int PEOPLE = BOOK + MOST_RAINS;
    private static final int KEPT = PEOPLE + 1;
    private static final int SHEDS = KEPT;
    private static final int NEED = SHEDS + 1;
    private static final int RULING = NEED + CELLS;
    private static final int SCENE = RULING + 1;
    private static final int TEXTS = SCENE;
    private static final int COST = TEXTS + 1;
    private static final int SEEN = COST + MOST_PEOPLE * DAYS;
    private static final int SEEN_CELL = SEEN + 1;
    private static final int SEEN_STEPS = SEEN_CELL + MOST_SEEN;
    private static final int SAID = SEEN_STEPS + MOST_SEEN;
    private static final int SAID_WHO = SAID + 1;
    private static final int SAID_WANTS = SAID_WHO + MOST_SAID;
    private static final int DONE = SAID_WANTS + MOST_SAID;
    private static final int ELDEST = DONE + 1;
    private static final int PAST = ELDEST + 1;
    private static final int WHOLE = PAST + MOST_DONE * KEPT;

    private final Sky sky;
    private final Sky ahead;
    private final int[] row;
    private final int[] kept = new int[WHOLE];
    private final Law[] laws;
    private final Reader reader;
    private final int[] tape = new int[MOST_BYTES];
    private int bytes = 0;
    private boolean anyRead = false;
    private final Chase chase = new Chase();
    private final Tour trip = new Tour();
    private final Roster plan = new Roster();
    private final Parting parting = new Parting();

    public RainOnTheOne() {
        Law[] texts = new Law[MOST_TEXTS];
        for (int i = 0; i < MOST_TEXTS; i++) {
            texts[i] = new Law();
        }
        Judge judge = new Judge();
        laws = texts;
        reader = new Reader(texts[0]);
        sky = new Sky(WHOLE, texts, judge);
        ahead = new Sky(SCENE, texts, judge);
        row = sky.row;
        row[X] = FIRST_X;
        row[RULING] = NONE;
        for (int i = 0; i < MOST_PEOPLE * DAYS; i++) {
            row[COST + i] = FIRST_COST;
        }
        System.arraycopy(row, 0, kept, 0, WHOLE);
    }

    // ---- what is told

    public int person(int c, boolean without) {
        int number = row[PEOPLE];
        if (!sky.isOpen(c) || number >= MOST_PEOPLE) {
            return NONE;
        }
        row[AT + number] = c;
        row[WITHOUT + number] = without ? 1 : 0;
        row[WET + number] = 0;
        row[BEEN + number] = 0;
        row[PEOPLE] = number + 1;
        return number;
    }

    public boolean field(int c, int need) {
        if (!isCell(c) || !isWithin(need, 0, MOST_NEED)) {
            return false;
        }
        row[NEED + c] = need;
        return true;
    }

    public boolean shed(int c, boolean is) {
        if (!isCell(c) || is != sky.isOpen(c) || row[SHOWER] == c || sky.peopleIn(c) != 0) {
            return false;
        }
        row[SHEDS] ^= 1 << c;
        return true;
    }

    // ---- texts

    public int feed(int a, int b, int c, int d, int e) {
        if (bytes + 20 > MOST_BYTES) {
            return NONE;
        }
        takeBytes(a);
        takeBytes(b);
        takeBytes(c);
        takeBytes(d);
        takeBytes(e);
        return bytes;
    }

    private void takeBytes(int four) {
        for (int shift = 24; shift >= 0 && bytes < MOST_BYTES; shift -= 8) {
            tape[bytes] = four >>> shift & 255;
            bytes++;
        }
    }

    public int end(int n) {
        if (!isWithin(n, 0, bytes)) {
            return NONE;
        }
        bytes = n;
        return n;
    }

    public int text() {
        int number = row[TEXTS];
        if (number >= MOST_TEXTS) {
            return NONE;
        }
        // no text and no image uses a law from this number on, so a faulty reading spoils nothing
        reader.read(tape, bytes, laws[number]);
        anyRead = true;
        bytes = 0;
        if (reader.fault != 0) {
            return NONE;
        }
        row[TEXTS] = number + 1;
        return number;
    }

    public int fault(int what) {
        if (!anyRead || !isWithin(what, 0, 1)) {
            return NONE;
        }
        return what == 0 ? reader.fault : reader.faultPlace;
    }

    public boolean by(int text) {
        if (text != NONE && !isText(text)) {
            return false;
        }
        row[RULING] = text;
        return true;
    }

    // ---- what is done

    public boolean walk(int person, int c) {
        if (!isPerson(person) || !sky.canWalk(person, c)) {
            return false;
        }
        remember();
        row[AT + person] = c;
        return true;
    }

    public boolean hat(int person, boolean without) {
        int now = without ? 1 : 0;
        if (!isPerson(person) || row[WITHOUT + person] == now) {
            return false;
        }
        remember();
        row[WITHOUT + person] = now;
        return true;
    }

    public int draw() {
        int people = row[PEOPLE];
        if (people <= 0) {
            return NONE;
        }
        remember();
        int drawn = sky.nextX() % people;
        for (int p = 0; p < people; p++) {
            row[WITHOUT + p] = p == drawn ? 1 : 0;
        }
        return drawn;
    }

    public int minute(int n) {
        if (!isWithin(n, 1, MOST_MINUTES) || row[MINUTE] + n > LAST_MINUTE) {
            return NONE;
        }
        return pass(n);
    }

    /** Lets those of n MINUTES pass that can; in how many of them it rained. */
    private int pass(int n) {
        int rained = 0;
        for (int i = 0; i < n && sky.canPass(); i++) {
            remember();
            if (sky.passOne() != NONE) {
                rained++;
            }
        }
        return rained;
    }

    public int played(int text) {
        if (!isText(text)) {
            return OTHERS;
        }
        Law law = laws[text];
        for (int i = 0; i < law.clauses && i < MOST_CLAUSES; i++) {
            if (!act(law.kind[i], law.first[i], law.second[i])) {
                return i;
            }
        }
        return NONE;
    }

    /** Does one CLAUSE as by hand; false if it can't be. */
    private boolean act(int kind, int first, int second) {
        switch (kind) {
            case Token.PERSON:
                return person(first, true) != NONE;
            case Token.FIELD:
                return field(second, first);
            case Token.SHED:
                return shed(first, true);
            case Token.WALK:
                return walk(first, second);
            case Token.HAT:
                return hat(first, false);
            case Token.BARE:
                return hat(first, true);
            case Token.DRAW:
                return draw() != NONE;
            case Token.MINUTE:
                boolean all = row[MINUTE] + first <= LAST_MINUTE;
                pass(first);
                return all;
            default:
                return true;
        }
    }

    public int years(int seed, int n) {
        if (!isWithin(seed, 0, MOST_SEED) || !isWithin(n, 1, MOST_YEARS)) {
            return NONE;
        }
        remember();
        row[X] = seed * 2 + FIRST_X;
        for (int i = 0; i < n; i++) {
            sky.liveOn(sky.nextX());
        }
        return row[MINUTE];
    }

    public int undo() {
        int done = row[DONE] - 1;
        if (done < 0) {
            return NONE;
        }
        int from = PAST + (row[ELDEST] + done) % MOST_DONE * KEPT;
        // whoever was told since has changed by no STEP that still stands: it is as told
        for (int p = row[from + PEOPLE]; p < row[PEOPLE]; p++) {
            row[from + AT + p] = row[AT + p];
            row[from + WITHOUT + p] = row[WITHOUT + p];
            row[from + WET + p] = row[WET + p];
            row[from + BEEN + p] = row[BEEN + p];
        }
        row[from + PEOPLE] = row[PEOPLE];
        System.arraycopy(row, from, row, 0, KEPT);
        row[DONE] = done;
        return done;
    }

    /** Keeps what the STEP about to be done may change, in place of the eldest if 30 are kept. */
    private void remember() {
        int place = (row[ELDEST] + row[DONE]) % MOST_DONE;
        System.arraycopy(row, 0, row, PAST + place * KEPT, KEPT);
        if (row[DONE] < MOST_DONE) {
            row[DONE]++;
        } else {
            row[ELDEST] = (row[ELDEST] + 1) % MOST_DONE;
        }
    }

    // ---- what is so

    public int of(int person, int what) {
        if (!isPerson(person)) {
            return NONE;
        }
        switch (what) {
            case 0:
                return row[AT + person];
            case 1:
                return row[WITHOUT + person];
            case 2:
                return row[WET + person];
            case 3:
                return row[BEEN + person];
            case 4:
                return sky.wantsBy(row[RULING], person, sky.stepsTo(person));
            case 5:
                return sky.poursOn(person);
            default:
                return NONE;
        }
    }

    public int ofCell(int c, int what) {
        if (!isCell(c)) {
            return NONE;
        }
        switch (what) {
            case 0:
                return row[NEED + c];
            case 1:
                return row[WATER + c];
            case 2:
                return sky.isOpen(c) ? 0 : 1;
            case 3:
                return sky.peopleIn(c);
            default:
                return NONE;
        }
    }

    public int is(int what) {
        switch (what) {
            case 0:
                return row[MINUTE];
            case 1:
                return row[SHOWER];
            case 2:
                return row[X];
            case 3:
                return sky.goal();
            default:
                return OTHERS;
        }
    }

    public int book(int i, int what) {
        if (i == NONE) {
            return row[RAINS];
        }
        if (!isWithin(i, 0, row[RAINS] - 1)) {
            return OTHERS;
        }
        int rain = row[BOOK + i];
        switch (what) {
            case 0:
                return Rain.minuteIn(rain);
            case 1:
                return Rain.personIn(rain);
            case 2:
                return Rain.cellIn(rain);
            case 3:
                return Rain.waterIn(rain);
            default:
                return OTHERS;
        }
    }

    // ---- what comes

    public int foretold(int n, int what, int which) {
        boolean askable = what == 0 || what == 1 && isPerson(which) || what == 2 && isCell(which);
        if (!askable || !isWithin(n, 1, MOST_MINUTES)) {
            return NONE;
        }
        System.arraycopy(row, 0, ahead.row, 0, SCENE);
        for (int i = 0; i < n && ahead.canPass(); i++) {
            ahead.passOne();
        }
        if (what == 0) {
            return ahead.row[SHOWER];
        }
        return what == 1 ? ahead.row[WET + which] : ahead.row[WATER + which];
    }

    public int when(int person) {
        if (!isPerson(person)) {
            return NONE;
        }
        System.arraycopy(row, 0, ahead.row, 0, SCENE);
        for (int i = 1; i <= MOST_MINUTES && ahead.canPass(); i++) {
            if (ahead.passOne() == person) {
                return i;
            }
        }
        return NONE;
    }

    // ---- ways, fleeing, tours

    public int steps(int a, int b) {
        return Ground.stepsBetween(a, b, sky.open());
    }

    public int way(int a, int b, int i) {
        int open = sky.open();
        int length = Ground.stepsBetween(a, b, open);
        if (!isWithin(i, 0, length - 1)) {
            return OTHERS;
        }
        int at = a;
        for (int k = 0; k <= i && k < CELLS; k++) {
            at = Ground.nextOn(at, b, open);
        }
        return at;
    }

    public int caught(int person, int shower, int speed) {
        if (!canChase(person, shower, speed)) {
            return NONE;
        }
        chase.play(person, shower, speed, sky.open());
        return chase.turns;
    }

    public int flee(int person, int shower, int speed) {
        if (!canChase(person, shower, speed)) {
            return NONE;
        }
        chase.play(person, shower, speed, sky.open());
        return chase.refuge;
    }

    private boolean canChase(int person, int shower, int speed) {
        return sky.isOpen(person) && sky.isOpen(shower) && isWithin(speed, 1, 2);
    }

    public int tour(int from, int cells, int i) {
        int open = sky.open();
        int many = Integer.bitCount(cells);
        if (!sky.isOpen(from) || (cells & ~open) != 0 || !isWithin(many, 1, Tour.MOST)) {
            return OTHERS;
        }
        if (!isWithin(i, NONE, many - 1) || !trip.plan(from, cells, open)) {
            return OTHERS;
        }
        return i == NONE ? trip.best : trip.bestOrder[i];
    }

    // ---- what cuts off

    public int cut(int a, int b) {
        if (!sky.isOpen(a) || !sky.isOpen(b) || a == b) {
            return NONE;
        }
        return parting.fewest(a, b, sky.open());
    }

    public int narrows() {
        int open = sky.open();
        int found = 0;
        for (int c = 0; c < CELLS; c++) {
            int cell = 1 << c;
            int around = Ground.beside(cell) & open;
            // two CELLS are parted by this one only if two CELLS beside it are
            if ((open & cell) != 0 && (around & ~Ground.filled(around & -around, open & ~cell)) != 0) {
                found |= cell;
            }
        }
        return found;
    }

    // ---- rosters

    public boolean cost(int person, int day, int cost) {
        if (!isWithin(person, 0, MOST_PEOPLE - 1) || !isDay(day) || !isWithin(cost, 0, MOST_COST)) {
            return false;
        }
        row[COST + person * DAYS + day] = cost;
        return true;
    }

    public int roster(int k, int day) {
        if (!isWithin(k, 1, DAYS) || day != NONE && !isDay(day) || !plan.make(row, k)) {
            return NONE;
        }
        return day == NONE ? plan.best : plan.bestDays[day];
    }

    public int swap(int k, int a, int b) {
        if (!isWithin(k, 1, DAYS) || !isDay(a) || !isDay(b) || a == b || !plan.make(row, k)) {
            return NO_SWAP;
        }
        int onA = COST + plan.bestDays[a] * DAYS;
        int onB = COST + plan.bestDays[b] * DAYS;
        return row[onA + a] + row[onB + b] - row[onA + b] - row[onB + a];
    }

    // ---- where it came from, odds, whose law

    public int seen(int c, int n) {
        int many = row[SEEN];
        if (c == NONE) {
            row[SEEN] = 0;
            return 0;
        }
        if (!isCell(c) || !isWithin(n, 0, MOST_WENT) || many >= MOST_SEEN) {
            return OTHERS;
        }
        row[SEEN_CELL + many] = c;
        row[SEEN_STEPS + many] = n;
        row[SEEN] = many + 1;
        return many + 1;
    }

    public int from(boolean many) {
        int open = sky.open();
        int last = 0;
        for (int i = 0; i < row[SEEN]; i++) {
            last = Math.max(last, row[SEEN_STEPS + i]);
        }
        int cells = open & seenBehind(last);
        for (int n = last - 1; n >= 0; n--) {
            cells = Ground.beside(cells) & open & seenBehind(n);
        }
        return many ? Integer.bitCount(cells) : cells;
    }

    /** The CELLS that SHOWER can have been in behind n STEPS, by what was SEEN of just then. */
    private int seenBehind(int n) {
        int cells = Ground.ALL;
        for (int i = 0; i < row[SEEN]; i++) {
            if (row[SEEN_STEPS + i] == n) {
                cells &= 1 << row[SEEN_CELL + i];
            }
        }
        return cells;
    }

    public long likely(int n, int k, boolean low) {
        int people = row[PEOPLE];
        if (people <= 0 || !isWithin(n, 1, MOST_DRAWS) || !isWithin(k, 0, MOST_DRAWS)) {
            return NONE;
        }
        long upper = 1;
        for (int i = 0; i < k; i++) {
            upper = upper * (n - i) / (i + 1);
        }
        for (int i = 0; i < n - k; i++) {
            upper *= people - 1;
        }
        long lower = 1;
        for (int i = 0; i < n; i++) {
            lower *= people;
        }
        return (low ? lower : upper) / commonPart(upper, lower);
    }

    public int days(boolean low) {
        int people = row[PEOPLE];
        if (people <= 0) {
            return NONE;
        }
        int upper = 0;
        int lower = 1;
        for (int left = 1; left <= people; left++) {
            // with so many left that were not it yet, the next of them takes people / left draws
            upper = upper * left + people * lower;
            lower *= left;
        }
        return (low ? lower : upper) / (int) commonPart(upper, lower);
    }

    /** The greatest number that divides both; 1 at least, so that it may be divided by. */
    private static long commonPart(long a, long b) {
        long large = a;
        long small = b;
        for (int i = 0; i < 200 && small != 0; i++) {
            long rest = large % small;
            large = small;
            small = rest;
        }
        return Math.max(large, 1);
    }

    public int said(int person, int wants) {
        int many = row[SAID];
        if (person == NONE) {
            row[SAID] = 0;
            return 0;
        }
        if (!isPerson(person) || !isWithin(wants, -MOST_WANTS, MOST_WANTS) || many >= MOST_SAID) {
            return OTHERS;
        }
        row[SAID_WHO + many] = person;
        row[SAID_WANTS + many] = wants;
        row[SAID] = many + 1;
        return many + 1;
    }

    public int whose() {
        int texts = 0;
        for (int t = 0; t < row[TEXTS]; t++) {
            if (saysAll(t)) {
                texts |= 1 << t;
            }
        }
        return texts;
    }

    private boolean saysAll(int text) {
        for (int i = 0; i < row[SAID]; i++) {
            int person = row[SAID_WHO + i];
            if (sky.wantsBy(text, person, sky.stepsTo(person)) != row[SAID_WANTS + i]) {
                return false;
            }
        }
        return true;
    }

    // ---- fields, the wettest, the nearest, the book

    public int thirsty(boolean many) {
        int cells = 0;
        int lack = 0;
        for (int c = 0; c < CELLS; c++) {
            if (lacks(c) > 0) {
                cells |= 1 << c;
                lack += lacks(c);
            }
        }
        return many ? lack : cells;
    }

    public int driest() {
        int found = NONE;
        int most = 0;
        for (int c = 0; c < CELLS; c++) {
            if (lacks(c) > most) {
                most = lacks(c);
                found = c;
            }
        }
        return found;
    }

    private int lacks(int c) {
        return row[NEED + c] - row[WATER + c];
    }

    public int wettest() {
        int found = NONE;
        int most = 0;
        for (int p = 0; p < row[PEOPLE]; p++) {
            if (row[WET + p] > most) {
                most = row[WET + p];
                found = p;
            }
        }
        return found;
    }

    public int near(int c) {
        int open = sky.open();
        int found = NONE;
        int fewest = CELLS;
        for (int p = 0; p < row[PEOPLE]; p++) {
            int steps = Ground.stepsBetween(row[AT + p], c, open);
            if (steps != NONE && steps < fewest) {
                fewest = steps;
                found = p;
            }
        }
        return found;
    }

    public int ledger(int person) {
        if (person != NONE && !isPerson(person)) {
            return OTHERS;
        }
        int water = 0;
        for (int i = 0; i < row[RAINS]; i++) {
            int rain = row[BOOK + i];
            if (person == NONE || Rain.personIn(rain) == person) {
                water += Rain.waterIn(rain);
            }
        }
        return water;
    }

    // ---- the image

    public int image() {
        System.arraycopy(row, 0, kept, 0, WHOLE);
        return row[MINUTE];
    }

    public int back() {
        System.arraycopy(kept, 0, row, 0, WHOLE);
        return row[MINUTE];
    }

    public int about(int what) {
        switch (what) {
            case 0:
                return row[PEOPLE];
            case 1:
                return row[TEXTS];
            case 2:
                return row[RULING];
            case 3:
                return row[DONE];
            case 4:
                return row[SEEN];
            case 5:
                return row[SAID];
            case 6:
                return bytes;
            default:
                return OTHERS;
        }
    }

    // ---- what a number may be

    private static boolean isWithin(int n, int least, int most) {
        return n >= least && n <= most;
    }

    private static boolean isCell(int c) {
        return c >= 0 && c < CELLS;
    }

    private static boolean isDay(int day) {
        return day >= 0 && day < DAYS;
    }

    private boolean isPerson(int person) {
        return person >= 0 && person < row[PEOPLE];
    }

    private boolean isText(int text) {
        return text >= 0 && text < row[TEXTS];
    }

    /** CELLS as bits of one int, and what can be said of going by side through open ones. */
    private static final class Ground {
        static final int ALL = (1 << CELLS) - 1;
        static final int LEFT_SIDE = 1 | 1 << 6 | 1 << 12 | 1 << 18 | 1 << 24;
        static final int RIGHT_SIDE = LEFT_SIDE << 5;

        /** All CELLS that are side by side with one of these. */
        static int beside(int cells) {
            int aboveBelow = cells >>> 6 | cells << 6 & ALL;
            return aboveBelow | (cells & ~LEFT_SIDE) >>> 1 | (cells & ~RIGHT_SIDE) << 1;
        }

        /** The CELL on that side (0 above, 1 left, 2 right, 3 below); NONE if there is none. */
        static int toSide(int c, int side) {
            switch (side) {
                case 0:
                    return c >= 6 ? c - 6 : NONE;
                case 1:
                    return c % 6 > 0 ? c - 1 : NONE;
                case 2:
                    return c % 6 < 5 ? c + 1 : NONE;
                default:
                    return c < CELLS - 6 ? c + 6 : NONE;
            }
        }

        /** The lowest of these CELLS; NONE if there is none. */
        static int lowest(int cells) {
            return cells == 0 ? NONE : Integer.bitCount((cells & -cells) - 1);
        }

        static boolean has(int cells, int c) {
            return c >= 0 && c < CELLS && (cells >>> c & 1) != 0;
        }

        static int stepsBetween(int a, int b, int open) {
            if (!has(open, a) || !has(open, b)) {
                return NONE;
            }
            int reached = 1 << a;
            for (int steps = 0; steps < CELLS; steps++) {
                if ((reached >>> b & 1) != 0) {
                    return steps;
                }
                reached |= beside(reached) & open;
            }
            return NONE;
        }

        /** The CELL behind a on the WAY from a to another CELL b; NONE if there is no WAY. */
        static int nextOn(int a, int b, int open) {
            if (!has(open, a) || !has(open, b)) {
                return NONE;
            }
            int around = beside(1 << a) & open;
            int reached = 1 << b;
            // the first CELLS beside a that are reached from b are those of fewest STEPS
            for (int i = 0; i < CELLS && (reached & around) == 0; i++) {
                reached |= beside(reached) & open;
            }
            return lowest(reached & around);
        }

        /** All open CELLS that can be come to from these open ones, and these. */
        static int filled(int cells, int open) {
            int reached = cells;
            for (int i = 0; i < CELLS; i++) {
                int more = reached | beside(reached) & open;
                if (more == reached) {
                    return reached;
                }
                reached = more;
            }
            return reached;
        }
    }

    /** A rain of the BOOK in one number: MINUTE, PERSON, CELL, WATER that came. */
    private static final class Rain {
        static int written(int minute, int person, int cell, int water) {
            return ((minute * MOST_PEOPLE + person) * CELLS + cell) * (MOST_POURS + 1) + water;
        }

        static int waterIn(int rain) {
            return rain % (MOST_POURS + 1);
        }

        static int cellIn(int rain) {
            return rain / (MOST_POURS + 1) % CELLS;
        }

        static int personIn(int rain) {
            return rain / (MOST_POURS + 1) / CELLS % MOST_PEOPLE;
        }

        static int minuteIn(int rain) {
            return rain / (MOST_POURS + 1) / CELLS / MOST_PEOPLE;
        }
    }

    /** A row of the state and how it goes on: as it is now, or as it is foretold. */
    private static final class Sky {
        final int[] row;
        private final Law[] laws;
        private final Judge judge;

        Sky(int length, Law[] laws, Judge judge) {
            this.row = new int[Math.max(length, SCENE)];
            this.laws = laws;
            this.judge = judge;
        }

        /** All CELLS that are no SHEDS. */
        int open() {
            return Ground.ALL & ~row[SHEDS];
        }

        boolean isOpen(int c) {
            return isCell(c) && (row[SHEDS] >>> c & 1) == 0;
        }

        int peopleIn(int c) {
            int people = 0;
            for (int p = 0; p < row[PEOPLE]; p++) {
                if (row[AT + p] == c) {
                    people |= 1 << p;
                }
            }
            return people;
        }

        boolean canWalk(int person, int c) {
            return isOpen(c) && Ground.has(Ground.beside(1 << row[AT + person]), c);
        }

        boolean canPass() {
            return row[MINUTE] < LAST_MINUTE;
        }

        /** X as it is; X is another one then. */
        int nextX() {
            int x = row[X];
            row[X] = (x * 487 + 373) % 30671;
            return x;
        }

        int stepsTo(int person) {
            return Ground.stepsBetween(row[SHOWER], row[AT + person], open());
        }

        /** What that TEXT (NONE: none) says of wanting a PERSON so many STEPS off (NONE: none). */
        int wantsBy(int text, int person, int steps) {
            int away = steps == NONE ? NO_STEPS : steps;
            if (text == NONE || laws[text].wantsAt == NONE) {
                return NO_STEPS - away;
            }
            int said = judge.says(laws[text], laws[text].wantsAt, row, person, away);
            return Math.max(-MOST_WANTS, Math.min(MOST_WANTS, said));
        }

        int poursOn(int person) {
            int text = row[RULING];
            if (text == NONE || laws[text].poursAt == NONE) {
                return 3;
            }
            int said = judge.says(laws[text], laws[text].poursAt, row, person, NO_STEPS);
            return Math.max(0, Math.min(MOST_POURS, said));
        }

        /** The PERSON that SHOWER goes for; NONE: nobody. */
        int goal() {
            int found = NONE;
            int most = 0;
            int open = open();
            for (int p = 0; p < row[PEOPLE]; p++) {
                int steps = Ground.stepsBetween(row[SHOWER], row[AT + p], open);
                if (row[WITHOUT + p] == 1 && steps != NONE) {
                    int wants = wantsBy(row[RULING], p, steps);
                    if (found == NONE || wants > most) {
                        most = wants;
                        found = p;
                    }
                }
            }
            return found;
        }

        /** A MINUTE, which must be able to pass; the PERSON on whom it rained, or NONE. */
        int passOne() {
            int person = goal();
            int wet = NONE;
            if (person == NONE) {
                int c = Ground.toSide(row[SHOWER], nextX() % 4);
                row[SHOWER] = isOpen(c) ? c : row[SHOWER];
            } else if (row[AT + person] == row[SHOWER]) {
                rainOn(person);
                wet = person;
            } else {
                row[SHOWER] = Ground.nextOn(row[SHOWER], row[AT + person], open());
            }
            for (int p = 0; p < row[PEOPLE]; p++) {
                if (p != wet) {
                    row[WET + p] = Math.max(0, row[WET + p] - 1);
                }
            }
            row[MINUTE]++;
            return wet;
        }

        private void rainOn(int person) {
            int c = row[AT + person];
            int came = Math.min(poursOn(person), MOST_WATER - row[WATER + c]);
            row[WATER + c] += came;
            row[WET + person] = Math.min(MOST_WET, row[WET + person] + 3);
            row[BEEN + person] = Math.min(MOST_BEEN, row[BEEN + person] + 1);
            if (row[RAINS] >= MOST_RAINS) {
                System.arraycopy(row, BOOK + 1, row, BOOK, MOST_RAINS - 1);
                row[RAINS] = MOST_RAINS - 1;
            }
            row[BOOK + row[RAINS]] = Rain.written(row[MINUTE], person, c, came);
            row[RAINS]++;
        }

        /** What the draw x of YEARS brings. */
        void liveOn(int x) {
            int people = row[PEOPLE];
            int what = x % 6;
            if (what >= 3) {
                if (canPass()) {
                    passOne();
                }
                return;
            }
            if (people <= 0) {
                return;
            }
            int person = x % people;
            if (what == 2) {
                row[WITHOUT + person] = x % 4 > 0 ? 1 : 0;
                return;
            }
            int c = Ground.toSide(row[AT + person], x / 6 % 4);
            if (isOpen(c)) {
                row[AT + person] = c;
            }
        }
    }

    /** The kinds of TOKENS; in a law's code the same numbers say what is to be done. */
    private static final class Token {
        /** Every word with a blank behind it; the place among them is the word's kind. */
        static final String WORDS = "wants pours person field shed walk hat bare draw minute who wet been at need water steps share waters if not of to then else end or and ";
        /** The signs of one byte; the place among them, from LESS on, is the sign's kind. */
        static final String SIGNS = "<>=#+-*/();";

        static final int WANTS = 0;
        static final int POURS = 1;
        static final int PERSON = 2;
        static final int FIELD = 3;
        static final int SHED = 4;
        static final int WALK = 5;
        static final int HAT = 6;
        static final int BARE = 7;
        static final int DRAW = 8;
        static final int MINUTE = 9;
        static final int WHO = 10;
        static final int WET = 11;
        static final int BEEN = 12;
        static final int AT = 13;
        static final int NEED = 14;
        static final int WATER = 15;
        static final int STEPS = 16;
        static final int SHARE = 17;
        static final int WATERS = 18;
        static final int IF = 19;
        static final int NOT = 20;
        static final int OF = 21;
        static final int TO = 22;
        static final int THEN = 23;
        static final int ELSE = 24;
        static final int END = 25;
        static final int OR = 26;
        static final int AND = 27;
        static final int LESS = 28;
        static final int MORE = 29;
        static final int SAME = 30;
        static final int UNLIKE = 31;
        static final int PLUS = 32;
        static final int MINUS = 33;
        static final int TIMES = 34;
        static final int BY = 35;
        static final int OPEN = 36;
        static final int CLOSE = 37;
        static final int STOP = 38;
        static final int AT_MOST = 39;
        static final int AT_LEAST = 40;
        static final int NUMBER = 41;
        static final int UNKNOWN = 42;
        static final int TAPE_END = 43;
        /** Stands for every TOKEN behind a FAULT. */
        static final int UNREAD = 44;

        // these are in code alone
        static final int NEGATE = 45;
        static final int SKIP = 46;
        static final int SKIP_UNLESS = 47;
        static final int HALT = 48;

        static boolean isHead(int kind) {
            return kind >= WANTS && kind <= MINUTE;
        }

        static boolean isName(int kind) {
            return kind >= MINUTE && kind <= STEPS;
        }

        static boolean isCompare(int kind) {
            return kind >= LESS && kind <= UNLIKE || kind == AT_MOST || kind == AT_LEAST;
        }
    }

    /** A TEXT as it was read: its CLAUSES, and the code of its wants and pours. */
    private static final class Law {
        static final int PLACES = 64;

        final int[] kind = new int[MOST_CLAUSES];
        final int[] first = new int[MOST_CLAUSES];
        final int[] second = new int[MOST_CLAUSES];
        final int[] code = new int[MOST_BYTES];
        int clauses = 0;
        int size = 0;
        int wantsAt = NONE;
        int poursAt = NONE;

        void clear() {
            clauses = 0;
            size = 0;
            wantsAt = NONE;
            poursAt = NONE;
        }

        void addClause(int head, int one, int other) {
            if (clauses < MOST_CLAUSES) {
                kind[clauses] = head;
                first[clauses] = one;
                second[clauses] = other;
                clauses++;
            }
        }

        /** Each TOKEN adds one at most, so there is room for all. */
        void addCode(int what, int argument) {
            if (size < code.length) {
                code[size] = argument * PLACES + what;
                size++;
            }
        }

        /** The skip at that place goes to whatever is added next. */
        void skipToHere(int place) {
            if (place >= 0 && place < size) {
                code[place] = size * PLACES + code[place] % PLACES;
            }
        }
    }

    /** Reads a tape into a Law; at the first FAULT all that follows counts as unread. */
    private static final class Reader {
        private static final int DEEPEST = 8;

        int fault = 0;
        int faultPlace = NONE;
        private final int[] kinds = new int[MOST_BYTES + 1];
        private final int[] starts = new int[MOST_BYTES + 1];
        private final int[] numbers = new int[MOST_BYTES + 1];
        private int many = 0;
        private int at = 0;
        private int kind = Token.TAPE_END;
        private Law law;
        private int depth = 0;
        private boolean pouring = false;

        Reader(Law first) {
            law = first;
        }

        void read(int[] tape, int length, Law into) {
            law = into;
            law.clear();
            fault = 0;
            faultPlace = NONE;
            depth = 0;
            cutTokens(tape, Math.min(length, Math.min(tape.length, MOST_BYTES)));
            at = 0;
            kind = kinds[0];
            for (int i = 0; i < MOST_BYTES && kind != Token.TAPE_END && fault == 0; i++) {
                readClause();
            }
        }

        private void cutTokens(int[] tape, int length) {
            int place = 0;
            many = 0;
            while (place < length) {
                int sign = tape[place];
                int next = place + 1;
                if (isDigit(sign) || isLetter(sign)) {
                    while (next < length && isAlike(sign, tape[next])) {
                        next++;
                    }
                    if (isDigit(sign)) {
                        addToken(Token.NUMBER, place, numberOf(tape, place, next));
                    } else {
                        addToken(wordKind(tape, place, next), place, 0);
                    }
                } else if (sign != ' ' && sign != 10) {
                    int behind = next < length ? tape[next] : 0;
                    int found = signKind(sign, behind);
                    addToken(found, place, 0);
                    next += found >= Token.AT_MOST && found <= Token.AT_LEAST ? 1 : 0;
                }
                place = next;
            }
            addToken(Token.TAPE_END, length, 0);
        }

        private void addToken(int found, int start, int number) {
            if (many < kinds.length) {
                kinds[many] = found;
                starts[many] = start;
                numbers[many] = number;
                many++;
            }
        }

        private static boolean isDigit(int sign) {
            return sign >= '0' && sign <= '9';
        }

        private static boolean isLetter(int sign) {
            return sign >= 'a' && sign <= 'z' || sign >= 'A' && sign <= 'Z';
        }

        private static boolean isAlike(int sign, int other) {
            return isDigit(sign) && isDigit(other) || isLetter(sign) && isLetter(other);
        }

        private static int numberOf(int[] tape, int start, int behind) {
            int number = 0;
            for (int i = start; i < behind; i++) {
                // above 9999 it is enough to know that it is
                number = Math.min(10000, number * 10 + tape[i] - '0');
            }
            return number;
        }

        private static int wordKind(int[] tape, int start, int behind) {
            int word = 0;
            int like = start;
            for (int i = 0; i < Token.WORDS.length(); i++) {
                char letter = Token.WORDS.charAt(i);
                if (letter == ' ') {
                    if (like == behind) {
                        return word;
                    }
                    word++;
                    like = start;
                } else if (like != NONE && like < behind && tape[like] == letter) {
                    like++;
                } else {
                    like = NONE;
                }
            }
            return Token.UNKNOWN;
        }

        private static int signKind(int sign, int behind) {
            if (behind == '=' && (sign == '<' || sign == '>')) {
                return sign == '<' ? Token.AT_MOST : Token.AT_LEAST;
            }
            for (int i = 0; i < Token.SIGNS.length(); i++) {
                if (Token.SIGNS.charAt(i) == sign) {
                    return Token.LESS + i;
                }
            }
            return Token.UNKNOWN;
        }

        private void blame(int what) {
            if (fault == 0) {
                fault = what;
                faultPlace = starts[at];
                kind = Token.UNREAD;
            }
        }

        private void advance() {
            if (kind != Token.UNREAD && at + 1 < many) {
                at++;
                kind = kinds[at];
            }
        }

        private void readClause() {
            int head = kind;
            boolean again = head == Token.WANTS && law.wantsAt != NONE
                    || head == Token.POURS && law.poursAt != NONE;
            if (!Token.isHead(head)) {
                blame(1);
            } else if (again) {
                blame(4);
            } else if (law.clauses >= MOST_CLAUSES) {
                blame(6);
            } else if (head == Token.WANTS || head == Token.POURS) {
                readLaw(head);
            } else {
                readDeed(head);
            }
            expect(Token.STOP);
        }

        private void readLaw(int head) {
            pouring = head == Token.POURS;
            if (pouring) {
                law.poursAt = law.size;
            } else {
                law.wantsAt = law.size;
            }
            law.addClause(head, 0, 0);
            advance();
            readSum();
            law.addCode(Token.HALT, 0);
        }

        private void readDeed(int head) {
            int first = 0;
            int second = 0;
            advance();
            if (head == Token.FIELD) {
                first = numberWithin(0, MOST_NEED);
                expect(Token.OF);
                second = numberWithin(0, CELLS - 1);
            } else if (head == Token.WALK) {
                first = numberWithin(0, MOST_PEOPLE - 1);
                expect(Token.TO);
                second = numberWithin(0, CELLS - 1);
            } else if (head == Token.PERSON || head == Token.SHED) {
                first = numberWithin(0, CELLS - 1);
            } else if (head == Token.HAT || head == Token.BARE) {
                first = numberWithin(0, MOST_PEOPLE - 1);
            } else if (head == Token.MINUTE) {
                first = numberWithin(1, MOST_MINUTES);
            }
            law.addClause(head, first, second);
        }

        private void expect(int due) {
            if (kind != due) {
                blame(1);
            }
            advance();
        }

        private int numberWithin(int least, int most) {
            int found = numbers[at];
            if (kind != Token.NUMBER) {
                blame(1);
            } else if (!isWithin(found, least, most)) {
                blame(2);
            }
            advance();
            return found;
        }

        private void readSum() {
            readProduct();
            for (int i = 0; i < MOST_BYTES && (kind == Token.PLUS || kind == Token.MINUS); i++) {
                int sign = kind;
                advance();
                readProduct();
                law.addCode(sign, 0);
            }
        }

        private void readProduct() {
            readOne();
            for (int i = 0; i < MOST_BYTES && (kind == Token.TIMES || kind == Token.BY); i++) {
                int sign = kind;
                advance();
                readOne();
                law.addCode(sign, 0);
            }
        }

        private void readOne() {
            if (kind == Token.NUMBER) {
                law.addCode(Token.NUMBER, numberWithin(0, 9999));
            } else if (Token.isName(kind)) {
                readName();
            } else if (opensOne()) {
                readInner();
            } else {
                blame(1);
            }
        }

        private void readName() {
            if (kind == Token.STEPS && pouring) {
                blame(5);
            }
            law.addCode(kind, 0);
            advance();
        }

        private boolean opensOne() {
            return kind == Token.OPEN || kind == Token.MINUS || kind == Token.SHARE
                    || kind == Token.WATERS || kind == Token.IF;
        }

        /** A ONE that holds others; the FAULT 3 keeps these from going deeper than eight. */
        private void readInner() {
            int head = kind;
            if (depth >= DEEPEST) {
                blame(3);
                return;
            }
            depth++;
            advance();
            if (head == Token.OPEN) {
                readSum();
                expect(Token.CLOSE);
            } else if (head == Token.MINUS) {
                readOne();
                law.addCode(Token.NEGATE, 0);
            } else if (head == Token.WATERS) {
                readOne();
                law.addCode(Token.WATERS, 0);
            } else if (head == Token.SHARE) {
                readOne();
                expect(Token.OF);
                readOne();
                law.addCode(Token.SHARE, 0);
            } else {
                readChoice();
            }
            depth--;
        }

        private void readChoice() {
            readEither();
            expect(Token.THEN);
            int toElse = law.size;
            law.addCode(Token.SKIP_UNLESS, 0);
            readSum();
            expect(Token.ELSE);
            int toEnd = law.size;
            law.addCode(Token.SKIP, 0);
            law.skipToHere(toElse);
            readSum();
            expect(Token.END);
            law.skipToHere(toEnd);
        }

        private void readEither() {
            readBoth();
            for (int i = 0; i < MOST_BYTES && kind == Token.OR; i++) {
                advance();
                readBoth();
                law.addCode(Token.OR, 0);
            }
        }

        private void readBoth() {
            readAsk();
            for (int i = 0; i < MOST_BYTES && kind == Token.AND; i++) {
                advance();
                readAsk();
                law.addCode(Token.AND, 0);
            }
        }

        private void readAsk() {
            if (kind == Token.NOT) {
                if (depth >= DEEPEST) {
                    blame(3);
                    return;
                }
                depth++;
                advance();
                readAsk();
                law.addCode(Token.NOT, 0);
                depth--;
                return;
            }
            readSum();
            int sign = kind;
            if (!Token.isCompare(sign)) {
                blame(1);
            }
            advance();
            readSum();
            law.addCode(sign, 0);
        }
    }

    /** Works out what a law's code says, on a stack. */
    private static final class Judge {
        private static final int MOST = 1000000;
        // nine SUMS around one another leave six waiting each, at most
        private final int[] stack = new int[64];

        int says(Law law, int at, int[] row, int person, int steps) {
            int height = 0;
            for (int i = at; i >= 0 && i < law.size && height + 1 < stack.length; i++) {
                int what = law.code[i] % Law.PLACES;
                int argument = law.code[i] / Law.PLACES;
                if (what == Token.HALT) {
                    break;
                } else if (what == Token.NUMBER) {
                    stack[height] = argument;
                    height++;
                } else if (Token.isName(what)) {
                    stack[height] = what == Token.STEPS ? steps : named(what, row, person);
                    height++;
                } else if (what == Token.SKIP) {
                    i = Math.max(i, argument - 1);
                } else if (what == Token.SKIP_UNLESS && height > 0) {
                    height--;
                    i = stack[height] == 0 ? Math.max(i, argument - 1) : i;
                } else if (what == Token.NEGATE && height > 0) {
                    stack[height - 1] = -stack[height - 1];
                } else if (what == Token.NOT && height > 0) {
                    stack[height - 1] = 1 - stack[height - 1];
                } else if (what == Token.WATERS && height > 0) {
                    int c = stack[height - 1];
                    stack[height - 1] = isCell(c) ? row[WATER + c] : 0;
                } else if (height > 1) {
                    height--;
                    long joined = joined(what, stack[height - 1], stack[height]);
                    stack[height - 1] = (int) Math.max(-MOST, Math.min(MOST, joined));
                }
            }
            return height > 0 ? stack[0] : 0;
        }

        private static int named(int name, int[] row, int person) {
            int at = row[AT + person];
            switch (name) {
                case Token.MINUTE:
                    return row[MINUTE];
                case Token.WHO:
                    return person;
                case Token.WET:
                    return row[WET + person];
                case Token.BEEN:
                    return row[BEEN + person];
                case Token.AT:
                    return at;
                case Token.NEED:
                    return row[NEED + at];
                default:
                    return row[WATER + at];
            }
        }

        private static long joined(int how, int a, int b) {
            switch (how) {
                case Token.PLUS:
                    return a + b;
                case Token.MINUS:
                    return a - b;
                case Token.TIMES:
                    return (long) a * b;
                case Token.BY:
                    return b == 0 ? 0 : a / b;
                case Token.SHARE:
                    return b == 0 ? 0 : a * 100 / b;
                case Token.LESS:
                    return a < b ? 1 : 0;
                case Token.AT_MOST:
                    return a <= b ? 1 : 0;
                case Token.MORE:
                    return a > b ? 1 : 0;
                case Token.AT_LEAST:
                    return a >= b ? 1 : 0;
                case Token.SAME:
                    return a == b ? 1 : 0;
                case Token.UNLIKE:
                    return a != b ? 1 : 0;
                case Token.AND:
                    return a & b;
                default:
                    return a | b;
            }
        }
    }

    /** One that flees and SHOWER that goes after it, by turns. */
    private static final class Chase {
        int turns = NONE;
        int refuge = NONE;
        /** By the CELL of whoever flees: the CELLS of SHOWER from which it is caught by now. */
        private final int[] sure = new int[CELLS];
        /** The same, it being SHOWER's turn. */
        private final int[] soon = new int[CELLS];

        void play(int person, int shower, int speed, int open) {
            turns = 0;
            refuge = person;
            if (person == shower) {
                return;
            }
            for (int c = 0; c < CELLS; c++) {
                sure[c] = 1 << c;
            }
            int choices = (1 << person | Ground.beside(1 << person)) & open;
            boolean more = true;
            // each turn adds one pair of CELLS at least, and there are 900
            for (int turn = 1; turn <= CELLS * CELLS && more; turn++) {
                showersTurn(speed, open);
                int left = choicesWithout(choices, shower);
                if (left == 0) {
                    turns = turn;
                    refuge = Ground.lowest(choices);
                    return;
                }
                choices = left;
                more = fleersTurn(open);
            }
            turns = NONE;
            refuge = Ground.lowest(choices);
        }

        private void showersTurn(int speed, int open) {
            for (int c = 0; c < CELLS; c++) {
                int cells = sure[c];
                for (int i = 0; i < speed; i++) {
                    cells |= Ground.beside(cells) & open;
                }
                soon[c] = cells;
            }
        }

        /** Those of the choices in which SHOWER doesn't catch it by now. */
        private int choicesWithout(int choices, int shower) {
            int left = 0;
            for (int c = 0; c < CELLS; c++) {
                if (Ground.has(choices, c) && !Ground.has(soon[c], shower)) {
                    left |= 1 << c;
                }
            }
            return left;
        }

        /** Whether there is any more by which it is caught, all its choices being looked at. */
        private boolean fleersTurn(int open) {
            boolean more = false;
            for (int c = 0; c < CELLS; c++) {
                int all = soon[c];
                for (int side = 0; side < 4; side++) {
                    int next = Ground.toSide(c, side);
                    if (Ground.has(open, next)) {
                        all &= soon[next];
                    }
                }
                all |= 1 << c;
                if (Ground.has(open, c) && all != sure[c]) {
                    sure[c] = all;
                    more = true;
                }
            }
            return more;
        }
    }

    /** The order of some CELLS by which STEPS in all are fewest. */
    private static final class Tour {
        static final int MOST = 5;
        private static final int TOO_MANY = 1000000;

        int best = NONE;
        final int[] bestOrder = new int[MOST];
        private final int[] order = new int[MOST];
        private int many = 0;
        private int open = 0;

        /** Whether there is a TOUR. */
        boolean plan(int from, int cells, int ground) {
            many = Integer.bitCount(cells);
            open = ground;
            best = TOO_MANY;
            extend(0, from, cells, 0);
            return best < TOO_MANY;
        }

        /** Tries the lowest CELLS first, so that of like TOURS the first one found stays. */
        private void extend(int done, int at, int left, int total) {
            if (left == 0 || done >= MOST) {
                best = total;
                System.arraycopy(order, 0, bestOrder, 0, MOST);
                return;
            }
            for (int c = 0; c < CELLS; c++) {
                if (Ground.has(left, c)) {
                    int steps = Ground.stepsBetween(at, c, open);
                    // each CELL yet to come takes one STEP at least
                    if (steps != NONE && total + steps + many - done - 1 < best) {
                        order[done] = c;
                        extend(done + 1, c, left & ~(1 << c), total + steps);
                    }
                }
            }
        }
    }

    /** The fewest CELLS that part two CELLS. */
    private static final class Parting {
        private final int[] layers = new int[CELLS];

        int fewest(int a, int b, int open) {
            int besideA = Ground.beside(1 << a) & open;
            int besideB = Ground.beside(1 << b) & open;
            if (Ground.has(besideA, b)) {
                return NONE;
            }
            // all CELLS beside one of the two part them, so more than these are never needed
            int enough = Math.min(Integer.bitCount(besideA), Integer.bitCount(besideB));
            for (int n = 0; n < enough; n++) {
                if (parted(a, b, open, n)) {
                    return n;
                }
            }
            return enough;
        }

        /** Whether n CELLS can part the two: one of them must be on any WAY there is. */
        private boolean parted(int a, int b, int open, int n) {
            int way = between(a, b, open);
            if (way == NONE) {
                return true;
            }
            for (int c = 0; c < CELLS && n > 0; c++) {
                if (Ground.has(way, c) && parted(a, b, open & ~(1 << c), n - 1)) {
                    return true;
                }
            }
            return false;
        }

        /** The CELLS of one way of fewest STEPS, without its two ends; NONE if there is no way. */
        private int between(int a, int b, int open) {
            int reached = 1 << a;
            int steps = 0;
            while (steps < CELLS - 1 && !Ground.has(reached, b)) {
                layers[steps] = reached;
                reached |= Ground.beside(reached) & open;
                steps++;
            }
            if (!Ground.has(reached, b)) {
                return NONE;
            }
            int way = 0;
            int at = b;
            for (int i = steps - 1; i > 0; i--) {
                int before = Ground.beside(1 << at) & layers[i] & open;
                way |= before & -before;
                at = Ground.lowest(before);
            }
            return way;
        }
    }

    /** The ROSTER of least COST. */
    private static final class Roster {
        private static final int TOO_MUCH = 1000000;

        int best = TOO_MUCH;
        final int[] bestDays = new int[DAYS];
        private final int[] order = new int[DAYS];
        private final int[] times = new int[MOST_PEOPLE];
        /** By day and PERSON: what the days behind it cost at least, if that PERSON is it then. */
        private final int[] behind = new int[DAYS * MOST_PEOPLE];
        private int[] row = new int[0];
        private int people = 0;
        private int most = 0;

        /** Whether there is a ROSTER with each PERSON on k days at most. */
        boolean make(int[] state, int k) {
            row = state;
            people = state[PEOPLE];
            most = k;
            best = TOO_MUCH;
            for (int p = 0; p < MOST_PEOPLE; p++) {
                times[p] = 0;
            }
            for (int day = DAYS - 1; day >= 0; day--) {
                boundDay(day);
            }
            fill(0, NONE, 0);
            return best < TOO_MUCH;
        }

        private int costOf(int person, int day) {
            return row[COST + person * DAYS + day];
        }

        private void boundDay(int day) {
            for (int p = 0; p < people; p++) {
                int least = day == DAYS - 1 ? 0 : TOO_MUCH;
                for (int next = 0; next < people && day < DAYS - 1; next++) {
                    if (next != p) {
                        int cost = costOf(next, day + 1) + behind[(day + 1) * MOST_PEOPLE + next];
                        least = Math.min(least, cost);
                    }
                }
                behind[day * MOST_PEOPLE + p] = least;
            }
        }

        /** Tries the lowest PEOPLE first, so that of like ROSTERS the first one found stays. */
        private void fill(int day, int before, int total) {
            if (day >= DAYS) {
                best = total;
                System.arraycopy(order, 0, bestDays, 0, DAYS);
                return;
            }
            for (int p = 0; p < people; p++) {
                int cost = total + costOf(p, day);
                boolean may = p != before && times[p] < most;
                if (may && cost + behind[day * MOST_PEOPLE + p] < best) {
                    order[day] = p;
                    times[p]++;
                    fill(day + 1, p, cost);
                    times[p]--;
                }
            }
        }
    }
}
