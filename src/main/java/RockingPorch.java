/**
 * A porch of rocking chairs. The document DOC.md tells what every call answers; its words in
 * capitals are the names used here.
 */
public final class RockingPorch {
    public static final int NONE = -1;

    private static final int NO_SUCH = NONE - 1;
    private static final int NO_LOOK = NONE - 99999;

    private static final int MOST_CHAIRS = 10;
    private static final int MOST_PERSONS = 14;
    private static final int MOST_DEGREE = 9;
    private static final int MOST_SWING = 99;
    private static final int MOST_MINUTE = 9999;
    private static final int MOST_AT_ONCE = 60;
    private static final int MOST_UNDONE = 6;
    private static final int MOST_BOOKED = 150;
    private static final int MOST_LINES = 16;
    private static final int MOST_TAPE = 400;
    private static final int MOST_OPEN = 8;
    private static final int MOST_NUMBER = 9999;
    private static final int MOST_CALLED_MINUTE = 999;
    private static final int FED = 20;

    private static final int AWAY = 0;
    private static final int STANDING = 1;
    private static final int SITTING = 2;

    private static final int SAT_DOWN = 0;
    private static final int NO_SEAT = 1;
    private static final int ROSE = 2;
    private static final int WENT = 3;
    private static final int CAME = 4;
    private static final int STILLED = 5;

    private static final int THE_LAW = 0;
    private static final int CALLS = 1;
    private static final int HOUSE = 2;
    private static final int KIN = 3;

    private static final int MINUTE = 0;
    private static final int WHAT = 1;
    private static final int WHO = 2;
    private static final int MUCH = 3;
    private static final int COLUMNS = 4;

    // The kinds of TOKENS: a KEYWORD's is its place in WORDS, a sign's follows by its place in SIGNS.
    private static final String WORDS =
            "swings fades jumps run swing dear minds missed sat draught here minute when or and not at person sit rise go come cat hush";
    private static final String SIGNS = ";+-*/()<=>";
    private static final int SWINGS = 0;
    private static final int FADES = 1;
    private static final int JUMPS = 2;
    private static final int RUN = 3;
    private static final int MINDS = 6;
    private static final int DRAUGHT = 9;
    private static final int LAST_VALUE = 11;
    private static final int WHEN = 12;
    private static final int OR = 13;
    private static final int AND = 14;
    private static final int NOT = 15;
    private static final int AT = 16;
    private static final int PERSON = 17;
    private static final int SIT = 18;
    private static final int RISE = 19;
    private static final int GO = 20;
    private static final int COME = 21;
    private static final int CAT = 22;
    private static final int HUSH = 23;
    private static final int FIRST_SIGN = 24;
    private static final int STOP = 24;
    private static final int PLUS = 25;
    private static final int MINUS = 26;
    private static final int TIMES = 27;
    private static final int PARTED = 28;
    private static final int OPEN = 29;
    private static final int CLOSE = 30;
    private static final int LESS = 31;
    private static final int ALIKE = 32;
    private static final int MORE = 33;
    private static final int NUMBER = 34;
    private static final int NO_TOKEN = 35;
    private static final int THE_END = 36;

    // Where in the row of values that THE LAW is asked with each of its words stands.
    private static final int VALUES = LAST_VALUE - RUN + 1;
    private static final int RUN_VALUE = 0;
    private static final int SWING_VALUE = 1;
    private static final int DEAR_VALUE = 2;
    private static final int MINDS_VALUE = 3;
    private static final int MISSED_VALUE = 4;
    private static final int SAT_VALUE = 5;
    private static final int DRAUGHT_VALUE = 6;
    private static final int HERE_VALUE = 7;
    private static final int MINUTE_VALUE = 8;

    private static final int MOST_SEATED = 7;
    private static final int MOST_WEIGHTS = 9;
    private static final int MOST_WEIGHT = 99;
    private static final int MOST_TIME = 12;
    private static final int POINT_SIDE = 21;
    private static final int RUG_SIDE = 6;
    private static final int MOST_THROWS = 511;
    private static final int ROUND = 720;
    private static final int MOST_STEP = 60;
    private static final int MOST_SQUARE = 40;
    private static final int MOST_ORDER = 8;
    private static final int SCRATCH = 10;

    private final Whole whole = new Whole();
    private final Whole kept = new Whole();
    private boolean isKept = false;
    private final Past past = new Past();
    private final Porch thought = new Porch(true);
    private final Reader reader = new Reader();
    private final Doing doing = new Doing(whole);
    private final Puzzles puzzles = new Puzzles(whole.told);

    public RockingPorch() {
    }

    public int state(int v) {
        int was = whole.porch.draws;
        whole.porch.draws = v;
        past.forget();
        return was;
    }

    public int chair(int run) {
        if (!within(run, MOST_DEGREE) || whole.porch.chairs >= MOST_CHAIRS) {
            return NONE;
        }
        past.forget();
        return whole.porch.addChair(run);
    }

    public int person(int dear) {
        if (!within(dear, MOST_DEGREE) || whole.porch.persons >= MOST_PERSONS) {
            return NONE;
        }
        past.forget();
        return whole.porch.addPerson(dear);
    }

    public boolean set(int what, int who, int v) {
        if (!mayBeSet(what, who, v)) {
            return false;
        }
        past.forget();
        Porch porch = whole.porch;
        switch (what) {
            case 0:
                porch.run[who] = v;
                break;
            case 1:
                porch.dear[who] = v;
                break;
            case 2:
                porch.rock(who, v, porch.rocksFor[who]);
                break;
            default:
                porch.draught = v;
                break;
        }
        return true;
    }

    private boolean mayBeSet(int what, int who, int v) {
        switch (what) {
            case 0:
                return whole.porch.isChair(who) && within(v, MOST_DEGREE);
            case 1:
                return whole.porch.isPerson(who) && within(v, MOST_DEGREE);
            case 2:
                return whole.porch.rocks(who) && within(v, MOST_SWING);
            case 3:
                return within(v, MOST_DEGREE);
            default:
                return false;
        }
    }

    public boolean act(int what, int who, int v) {
        if (!mayBeDone(what, who, v)) {
            return false;
        }
        Porch porch = whole.porch;
        past.keep(porch, whole.book.count);
        switch (what) {
            case 0:
                doing.sitDown(porch, who, v);
                break;
            case 1:
                doing.getUp(porch, who);
                break;
            case 2:
                doing.letCat(porch, who);
                break;
            default:
                porch.rock(who, 0, NONE);
                break;
        }
        return true;
    }

    private boolean mayBeDone(int what, int who, int v) {
        switch (what) {
            case 0:
                return whole.porch.is(who, STANDING) && whole.porch.isFree(v);
            case 1:
                return whole.porch.is(who, SITTING);
            case 2:
            case 3:
                return whole.porch.rocks(who);
            default:
                return false;
        }
    }

    public int minutes(int n) {
        if (n < 1 || n > MOST_AT_ONCE || whole.porch.minute + n > MOST_MINUTE) {
            return NONE;
        }
        int seatless = 0;
        for (int i = 0; i < n; i++) {
            past.keep(whole.porch, whole.book.count);
            seatless += doing.passMinute(whole.porch);
        }
        return seatless;
    }

    public int feed(int a, int b, int c, int d, int e) {
        if (reader.size + FED > MOST_TAPE) {
            return NONE;
        }
        reader.hear(a);
        reader.hear(b);
        reader.hear(c);
        reader.hear(d);
        reader.hear(e);
        return reader.size;
    }

    public boolean end(int n) {
        if (!within(n, reader.size)) {
            return false;
        }
        reader.size = n;
        return true;
    }

    public int text(int k) {
        int lines = reader.read(k, whole.porch.chairs, whole.porch.persons);
        if (lines == NONE) {
            return NONE;
        }
        whole.learn(k, reader);
        if (k == CALLS || k == HOUSE) {
            past.forget();
        }
        return lines;
    }

    public int fault(int what) {
        return what == 0 ? reader.fault : what == 1 ? reader.place : NONE;
    }

    public int of(int chair, int what) {
        Porch porch = whole.porch;
        if (!porch.isChair(chair)) {
            return NO_SUCH;
        }
        switch (what) {
            case 0:
                return porch.run[chair];
            case 1:
                return porch.swing[chair];
            case 2:
                return porch.rocksFor[chair];
            case 3:
                return porch.taken[chair];
            case 4:
                return doing.ask(porch, FADES, chair, porch.rocksFor[chair]);
            case 5:
                return doing.ask(porch, JUMPS, chair, porch.rocksFor[chair]);
            default:
                return what >= 10 && porch.isPerson(what - 10) ? doing.ask(porch, SWINGS, chair, what - 10) : NO_SUCH;
        }
    }

    public int who(int person, int what) {
        Porch porch = whole.porch;
        if (!porch.isPerson(person)) {
            return NO_SUCH;
        }
        switch (what) {
            case 0:
                return porch.dear[person];
            case 1:
                return porch.where[person];
            case 2:
                return porch.missed[person];
            case 3:
                return porch.sat[person];
            case 4:
                return porch.chairOf(person);
            case 5:
                return porch.rockingFor(person);
            case 6:
                return whole.kin.minders(person);
            default:
                return NO_SUCH;
        }
    }

    public int book(int i, int what) {
        return whole.book.cell(i, what);
    }

    public int goes(int n, int what) {
        if (n < 1 || n > MOST_AT_ONCE || !within(what, 3)) {
            return NONE;
        }
        thought.copyFrom(whole.porch);
        for (int i = 0; i < n; i++) {
            doing.passMinute(thought);
        }
        switch (what) {
            case 0:
                return sum(thought.swing, thought.chairs);
            case 1:
                return sum(thought.missed, thought.persons);
            case 2:
                return sum(thought.sat, thought.persons);
            default:
                return Integer.bitCount(thought.freeSet());
        }
    }

    public int seat() {
        thought.copyFrom(whole.porch);
        for (int i = 0; i <= MOST_AT_ONCE; i++) {
            if (thought.freeSet() != 0) {
                return i;
            }
            if (i < MOST_AT_ONCE) {
                doing.passMinute(thought);
            }
        }
        return NONE;
    }

    public int tick(int r, int m) {
        if (m == NONE) {
            return whole.told.ticks.clear();
        }
        if (m < 1 || m > MOST_TIME || !within(r, m - 1)) {
            return NONE;
        }
        return whole.told.ticks.add(Told.pair(m, r));
    }

    public int ticks(int what) {
        return within(what, 1) ? puzzles.meeting(what == 1) : NONE;
    }

    public int apart(int a, int b) {
        if (a == NONE) {
            return whole.told.couples.clear();
        }
        if (!within(a, MOST_SEATED - 1) || !within(b, MOST_SEATED - 1) || a == b) {
            return NONE;
        }
        return whole.told.couples.add(Told.pair(a, b));
    }

    public int seated(int n, int what) {
        return n < 1 || n > MOST_SEATED || !within(what, 1) ? NONE : puzzles.orders(n, what == 1);
    }

    public int point(int x, int y) {
        if (x == NONE) {
            return whole.told.points.clear();
        }
        if (!within(x, POINT_SIDE - 1) || !within(y, POINT_SIDE - 1)) {
            return NONE;
        }
        return whole.told.points.addUnlike(Told.pair(x, y));
    }

    public int line(int what) {
        switch (what) {
            case 0:
                return puzzles.mostOnLine();
            case 1:
                return puzzles.distance(false);
            case 2:
                return puzzles.distance(true);
            default:
                return NONE;
        }
    }

    public boolean full(int x, int y, boolean is) {
        if (!within(x, RUG_SIDE - 1) || !within(y, RUG_SIDE - 1)) {
            return false;
        }
        whole.told.full[y * RUG_SIDE + x] = is ? 1 : 0;
        return true;
    }

    public int rug(int what) {
        return within(what, 1) ? puzzles.rugs(what == 1) : NONE;
    }

    public int stack(int order, int what) {
        int n = puzzles.readOrder(order);
        if (n == 0 || !within(what, 1)) {
            return NONE;
        }
        return what == 0 ? puzzles.letsOut(n) : puzzles.tracks(n);
    }

    public int weight(int v) {
        if (v == NONE) {
            return whole.told.weights.clear();
        }
        return v < 1 || v > MOST_WEIGHT ? NONE : whole.told.weights.add(v);
    }

    public int trunks(int s, int what) {
        if (s < 1 || s > MOST_WEIGHT || !within(what, 1) || whole.told.weights.greatest() > s) {
            return NONE;
        }
        return what == 0 ? puzzles.firstFit(s) : puzzles.fewestTrunks(s);
    }

    public int throwing(int a) {
        return a < 2 || a > MOST_THROWS ? NONE : Puzzles.fit(a, a);
    }

    public int ahead(int a, int b, int what) {
        if (a < 2 || a > MOST_THROWS || b < 2 || b > MOST_THROWS || a == b || !within(what, 1)
                || Puzzles.throwsOf(a) != Puzzles.throwsOf(b)) {
            return NONE;
        }
        return Puzzles.likely(a, b, what == 1);
    }

    public int hands(int t, int what) {
        if (!within(t, ROUND - 1) || !within(what, 1)) {
            return NONE;
        }
        return what == 0 ? Puzzles.handsApart(t) : Puzzles.handsAsNear(t);
    }

    public int step(int v) {
        if (v == NONE) {
            return whole.told.steps.clear();
        }
        return within(v, MOST_STEP) ? whole.told.steps.addUnlike(v) : NONE;
    }

    public int steps(int what) {
        switch (what) {
            case 0:
                return puzzles.threes();
            case 1:
                return puzzles.longestStair();
            default:
                return NONE;
        }
    }

    public int coin(int v) {
        if (v == NONE) {
            return whole.told.coins.clear();
        }
        return within(v, MOST_SQUARE) ? whole.told.coins.addUnlike(v) : NONE;
    }

    public int slide() {
        return puzzles.winningSlide();
    }

    public boolean undo() {
        return past.goBack(whole.porch, whole.book);
    }

    public boolean image(boolean taken) {
        if (taken) {
            kept.copyFrom(whole);
            isKept = true;
        } else if (isKept) {
            whole.copyFrom(kept);
            past.forget();
        }
        return isKept;
    }

    public int look(int what) {
        switch (what) {
            case 8:
                return whole.book.count;
            case 10:
                return whole.law.count;
            case 11:
                return whole.calls.count;
            case 12:
                return whole.house.count;
            case 13:
                return whole.kin.count;
            case 14:
                return past.count;
            default:
                return whole.porch.show(what);
        }
    }

    private static boolean within(int v, int most) {
        return v >= 0 && v <= most;
    }

    private static int sum(int[] row, int count) {
        int all = 0;
        for (int i = 0; i < count && i < row.length; i++) {
            all += row[i];
        }
        return all;
    }

    /** All that minutes and hands change: small, as it is copied for each thing that can be undone. */
    private static final class Porch {
        private static final int DRAW_TIMES = 1664525;
        private static final int DRAW_MORE = 1013904223;
        private static final int DRAW_SHIFT = 8;

        final boolean inThought;
        final int[] run = new int[MOST_CHAIRS];
        final int[] swing = new int[MOST_CHAIRS];
        final int[] rocksFor = new int[MOST_CHAIRS];
        final int[] taken = new int[MOST_CHAIRS];
        final int[] dear = new int[MOST_PERSONS];
        final int[] where = new int[MOST_PERSONS];
        final int[] missed = new int[MOST_PERSONS];
        final int[] sat = new int[MOST_PERSONS];
        int chairs = 0;
        int persons = 0;
        int draught = 0;
        int stilled = 0;
        int minute = 0;
        int draws = 0;

        Porch(boolean inThought) {
            this.inThought = inThought;
        }

        /** Takes over all but whether it is in thought. */
        void copyFrom(Porch other) {
            System.arraycopy(other.run, 0, run, 0, MOST_CHAIRS);
            System.arraycopy(other.swing, 0, swing, 0, MOST_CHAIRS);
            System.arraycopy(other.rocksFor, 0, rocksFor, 0, MOST_CHAIRS);
            System.arraycopy(other.taken, 0, taken, 0, MOST_CHAIRS);
            System.arraycopy(other.dear, 0, dear, 0, MOST_PERSONS);
            System.arraycopy(other.where, 0, where, 0, MOST_PERSONS);
            System.arraycopy(other.missed, 0, missed, 0, MOST_PERSONS);
            System.arraycopy(other.sat, 0, sat, 0, MOST_PERSONS);
            chairs = other.chairs;
            persons = other.persons;
            draught = other.draught;
            stilled = other.stilled;
            minute = other.minute;
            draws = other.draws;
        }

        int addChair(int howSmooth) {
            if (chairs >= MOST_CHAIRS) {
                return NONE;
            }
            run[chairs] = howSmooth;
            taken[chairs] = NONE;
            rock(chairs, 0, NONE);
            chairs++;
            return chairs - 1;
        }

        int addPerson(int howDear) {
            if (persons >= MOST_PERSONS) {
                return NONE;
            }
            dear[persons] = howDear;
            where[persons] = STANDING;
            missed[persons] = 0;
            sat[persons] = 0;
            persons++;
            return persons - 1;
        }

        boolean isChair(int chair) {
            return chair >= 0 && chair < chairs && chair < MOST_CHAIRS;
        }

        boolean isPerson(int person) {
            return person >= 0 && person < persons && person < MOST_PERSONS;
        }

        boolean is(int person, int place) {
            return isPerson(person) && where[person] == place;
        }

        boolean rocks(int chair) {
            return isChair(chair) && swing[chair] > 0;
        }

        boolean isFree(int chair) {
            return isChair(chair) && swing[chair] == 0 && taken[chair] == NONE;
        }

        /** The one place where SWING changes, so that a still CHAIR is FOR nobody. */
        void rock(int chair, int far, int person) {
            if (chair >= 0 && chair < MOST_CHAIRS) {
                swing[chair] = far;
                rocksFor[chair] = far > 0 ? person : NONE;
            }
        }

        int chairOf(int person) {
            for (int c = 0; c < chairs; c++) {
                if (isChair(c) && taken[c] == person) {
                    return c;
                }
            }
            return NONE;
        }

        int rockingFor(int person) {
            int set = 0;
            for (int c = 0; c < chairs; c++) {
                if (rocks(c) && rocksFor[c] == person) {
                    set |= 1 << c;
                }
            }
            return set;
        }

        int rockingSet() {
            int set = 0;
            for (int c = 0; c < chairs; c++) {
                if (rocks(c)) {
                    set |= 1 << c;
                }
            }
            return set;
        }

        int freeSet() {
            int set = 0;
            for (int c = 0; c < chairs; c++) {
                if (isFree(c)) {
                    set |= 1 << c;
                }
            }
            return set;
        }

        int awaySet() {
            int set = 0;
            for (int i = 0; i < persons && i < MOST_PERSONS; i++) {
                if (where[i] == AWAY) {
                    set |= 1 << i;
                }
            }
            return set;
        }

        int here() {
            return persons - Integer.bitCount(awaySet());
        }

        int draw(int m) {
            draws = draws * DRAW_TIMES + DRAW_MORE;
            return m > 0 ? (draws >>> DRAW_SHIFT) % m : 0;
        }

        int show(int what) {
            switch (what) {
                case 0:
                    return chairs;
                case 1:
                    return persons;
                case 2:
                    return rockingSet();
                case 3:
                    return freeSet();
                case 4:
                    return awaySet();
                case 5:
                    return draught;
                case 6:
                    return stilled;
                case 7:
                    return minute;
                case 9:
                    return draws;
                default:
                    return NO_LOOK;
            }
        }
    }

    /** Lines of four numbers: THE BOOK, CALLS, HOUSE and KIN. */
    private static final class Lines {
        private final int most;
        private final int[] cells;
        int count = 0;

        Lines(int most) {
            this.most = most;
            this.cells = new int[most * COLUMNS];
        }

        void add(int minute, int what, int who, int much) {
            if (count >= most) {
                return;
            }
            int first = count * COLUMNS;
            cells[first + MINUTE] = minute;
            cells[first + WHAT] = what;
            cells[first + WHO] = who;
            cells[first + MUCH] = much;
            count++;
        }

        int cell(int line, int column) {
            if (line < 0 || line >= count || line >= most || column < 0 || column >= COLUMNS) {
                return NONE;
            }
            return cells[line * COLUMNS + column];
        }

        /** Of KIN: the set of those who mind him. */
        int minders(int person) {
            int set = 0;
            for (int i = 0; i < count; i++) {
                if (cell(i, MUCH) == person) {
                    set |= 1 << cell(i, WHO);
                }
            }
            return set;
        }

        void copyFrom(Lines other) {
            if (other.cells.length == cells.length) {
                System.arraycopy(other.cells, 0, cells, 0, cells.length);
                count = other.count;
            }
        }
    }

    /**
     * THE LAW. Each line is kept as parts in the order in which a stack works them off: a NUMBER as
     * itself, all else as ~ of its kind, which is below 0. First comes its E, then its B, if it has one.
     */
    private static final class Law {
        // Each open ( leaves at most an "or" and an "and" waiting, a comparison at most four numbers.
        private static final int MOST_WAITING = 2 * (MOST_OPEN + 1) + 8;

        private final int[] words = new int[MOST_LINES];
        private final int[] starts = new int[MOST_LINES];
        private final int[] middles = new int[MOST_LINES];
        private final int[] ends = new int[MOST_LINES];
        private final int[] parts = new int[MOST_TAPE];
        private final int[] waiting = new int[MOST_WAITING];
        private int size = 0;
        int count = 0;

        void clear() {
            count = 0;
            size = 0;
        }

        void copyFrom(Law other) {
            System.arraycopy(other.words, 0, words, 0, MOST_LINES);
            System.arraycopy(other.starts, 0, starts, 0, MOST_LINES);
            System.arraycopy(other.middles, 0, middles, 0, MOST_LINES);
            System.arraycopy(other.ends, 0, ends, 0, MOST_LINES);
            System.arraycopy(other.parts, 0, parts, 0, MOST_TAPE);
            size = other.size;
            count = other.count;
        }

        void begin(int word) {
            if (count < MOST_LINES) {
                words[count] = word;
                starts[count] = size;
            }
        }

        /** A part: a NUMBER, or ~ of a kind. */
        void add(int part) {
            if (size < MOST_TAPE) {
                parts[size] = part;
                size++;
            }
        }

        void middle() {
            if (count < MOST_LINES) {
                middles[count] = size;
            }
        }

        void close() {
            if (count < MOST_LINES) {
                ends[count] = size;
                count++;
            }
        }

        int tell(int word, int[] values) {
            for (int i = 0; i < count && i < MOST_LINES; i++) {
                if (words[i] == word && (middles[i] == ends[i] || worth(middles[i], ends[i], values) != 0)) {
                    return held(word, worth(starts[i], middles[i], values));
                }
            }
            return held(word, untold(word, values));
        }

        private static int untold(int word, int[] values) {
            switch (word) {
                case SWINGS:
                    return 10 * values[DEAR_VALUE] + 5 * values[MINDS_VALUE];
                case FADES:
                    return 10 - values[RUN_VALUE] - values[DRAUGHT_VALUE];
                default:
                    return 900 - 5 * values[SWING_VALUE];
            }
        }

        private static int held(int word, int v) {
            int most = word == SWINGS ? MOST_SWING : word == FADES ? 20 : 1000;
            return Math.max(0, Math.min(most, v));
        }

        private int worth(int from, int to, int[] values) {
            int top = 0;
            for (int i = Math.max(0, from); i < to && i < MOST_TAPE; i++) {
                int kind = ~parts[i];
                if (kind < 0 || (kind >= RUN && kind <= LAST_VALUE)) {
                    if (top < MOST_WAITING) {
                        waiting[top] = kind < 0 ? parts[i] : values[kind - RUN];
                        top++;
                    }
                } else if (kind == NOT && top > 0) {
                    waiting[top - 1] = 1 - waiting[top - 1];
                } else if (top > 1) {
                    top--;
                    waiting[top - 1] = joined(kind, waiting[top - 1], waiting[top]);
                }
            }
            return top > 0 ? waiting[0] : 0;
        }

        private static int joined(int kind, int a, int b) {
            switch (kind) {
                case PLUS:
                    return a + b;
                case MINUS:
                    return a - b;
                case TIMES:
                    return a * b;
                case PARTED:
                    return b != 0 ? a / b : 0;
                case LESS:
                    return a < b ? 1 : 0;
                case ALIKE:
                    return a == b ? 1 : 0;
                case MORE:
                    return a > b ? 1 : 0;
                case AND:
                    return a & b;
                default:
                    return a | b;
            }
        }
    }

    /** The TAPE, and the reading of it as a TEXT into a draft, so that a FAULT leaves the TEXT as it was. */
    private static final class Reader {
        private static final int BLANK = 0;
        private static final int LETTER = 1;
        private static final int DIGIT = 2;
        private static final int SIGN = 3;
        private static final int MOST_DIGITS = 4;

        private final char[] tape = new char[MOST_TAPE];
        int size = 0;
        private final int[] kinds = new int[MOST_TAPE + 1];
        private final int[] numbers = new int[MOST_TAPE + 1];
        private final int[] places = new int[MOST_TAPE + 1];
        private int tokens = 0;
        private int at = 0;
        private int kind = THE_END;
        private int chairs = 0;
        private int persons = 0;
        final Law law = new Law();
        final Lines lines = new Lines(MOST_LINES);
        int fault = 0;
        int place = NONE;

        void hear(int v) {
            for (int shift = 24; shift >= 0; shift -= 8) {
                if (size < MOST_TAPE) {
                    tape[size] = (char) ((v >>> shift) & 255);
                    size++;
                }
            }
        }

        int read(int k, int chairsThere, int personsThere) {
            fault = 0;
            place = NONE;
            law.clear();
            lines.count = 0;
            chairs = chairsThere;
            persons = personsThere;
            boolean known = k >= THE_LAW && k <= KIN;
            if (known) {
                split();
                for (int i = 0; i < MOST_TAPE && fault == 0 && kind != THE_END; i++) {
                    switch (k) {
                        case THE_LAW:
                            lawLine();
                            break;
                        case CALLS:
                            callsLine();
                            break;
                        case HOUSE:
                            houseLine();
                            break;
                        default:
                            kinLine();
                            break;
                    }
                }
            }
            size = 0;
            return !known || fault != 0 ? NONE : k == THE_LAW ? law.count : lines.count;
        }

        private void split() {
            tokens = 0;
            for (int i = 0; i < size && i < MOST_TAPE; i++) {
                int sort = sortOf(tape[i]);
                boolean goesOn = i > 0 && (sort == LETTER || sort == DIGIT) && sort == sortOf(tape[i - 1]);
                if (sort != BLANK && !goesOn) {
                    token(i, sort);
                }
            }
            put(THE_END, 0, size);
            at = 0;
            kind = kinds[0];
        }

        private static int sortOf(char c) {
            if (c == 32 || c == 10) {
                return BLANK;
            }
            if (c >= 'a' && c <= 'z' || c >= 'A' && c <= 'Z') {
                return LETTER;
            }
            return c >= '0' && c <= '9' ? DIGIT : SIGN;
        }

        private void token(int from, int sort) {
            int to = from + 1;
            if (sort == SIGN) {
                int sign = SIGNS.indexOf(tape[from]);
                put(sign >= 0 ? FIRST_SIGN + sign : NO_TOKEN, 0, from);
                return;
            }
            while (to < size && to < MOST_TAPE && sortOf(tape[to]) == sort) {
                to++;
            }
            if (sort == LETTER) {
                put(wordOf(from, to), 0, from);
            } else {
                put(to - from <= MOST_DIGITS ? NUMBER : NO_TOKEN, digits(from, Math.min(to, from + MOST_DIGITS)), from);
            }
        }

        private int wordOf(int from, int to) {
            int word = 0;
            int i = from;
            boolean same = true;
            for (int k = 0; k <= WORDS.length(); k++) {
                char c = k < WORDS.length() ? WORDS.charAt(k) : ' ';
                if (c != ' ') {
                    same = same && i < to && tape[i] == c;
                    i++;
                } else if (same && i == to) {
                    return word;
                } else {
                    word++;
                    i = from;
                    same = true;
                }
            }
            return NO_TOKEN;
        }

        private int digits(int from, int to) {
            int v = 0;
            for (int i = from; i < to && i < MOST_TAPE; i++) {
                v = 10 * v + tape[i] - '0';
            }
            return v;
        }

        private void put(int sort, int number, int where) {
            if (tokens <= MOST_TAPE) {
                kinds[tokens] = sort;
                numbers[tokens] = number;
                places[tokens] = where;
                tokens++;
            }
        }

        private void advance() {
            if (at + 1 < tokens) {
                at++;
                kind = kinds[at];
            }
        }

        /** The first FAULT stays: what is read behind it might only seem wrong. */
        private void fail(int what) {
            if (fault == 0) {
                fault = what;
                place = places[at];
            }
        }

        private void expect(int wanted) {
            if (fault != 0) {
                return;
            }
            if (kind == wanted) {
                advance();
            } else {
                fail(1);
            }
        }

        private void expectLine(int wanted) {
            if (kind == wanted && lines.count >= MOST_LINES) {
                fail(3);
            }
            expect(wanted);
        }

        private int expectNumber(int most, int but) {
            if (fault != 0) {
                return 0;
            }
            int v = numbers[at];
            if (kind != NUMBER) {
                fail(1);
            } else if (v > most || v == but) {
                fail(2);
            } else {
                advance();
            }
            return v;
        }

        private void closeLine(int minute, int what, int who, int much) {
            expect(STOP);
            if (fault == 0) {
                lines.add(minute, what, who, much);
            }
        }

        private void callsLine() {
            expectLine(AT);
            int minute = expectNumber(MOST_CALLED_MINUTE, NONE);
            expect(PERSON);
            int person = expectNumber(persons - 1, NONE);
            int what = kind;
            expect(what >= SIT && what <= COME ? what : SIT);
            int chair = what == SIT ? expectNumber(chairs - 1, NONE) : NONE;
            closeLine(minute, what, person, chair);
        }

        private void houseLine() {
            expectLine(AT);
            int minute = expectNumber(MOST_CALLED_MINUTE, NONE);
            int what = kind;
            expect(what == DRAUGHT || what == HUSH ? what : CAT);
            int chair = what == CAT ? expectNumber(chairs - 1, NONE) : NONE;
            int much = what == DRAUGHT ? expectNumber(MOST_DEGREE, NONE) : 0;
            closeLine(minute, what, chair, much);
        }

        private void kinLine() {
            expectLine(PERSON);
            int who = expectNumber(persons - 1, NONE);
            expect(MINDS);
            int whom = expectNumber(persons - 1, who);
            closeLine(0, MINDS, who, whom);
        }

        private void lawLine() {
            if (kind > JUMPS) {
                fail(1);
                return;
            }
            if (law.count >= MOST_LINES) {
                fail(3);
                return;
            }
            law.begin(kind);
            advance();
            sumOf();
            law.middle();
            if (fault == 0 && kind == WHEN) {
                advance();
                condition(0);
            }
            expect(STOP);
            if (fault == 0) {
                law.close();
            }
        }

        /** E with its T and U: as * and / go ahead, a + or - waits till the T behind it is whole. */
        private void sumOf() {
            int near = NO_TOKEN;
            int far = NO_TOKEN;
            for (int i = 0; i < MOST_TAPE && fault == 0; i++) {
                law.add(near == PARTED ? expectNumber(MOST_NUMBER, 0) : expectUnit());
                if (near != NO_TOKEN) {
                    law.add(~near);
                }
                near = kind == TIMES || kind == PARTED ? kind : NO_TOKEN;
                if (near == NO_TOKEN) {
                    if (far != NO_TOKEN) {
                        law.add(~far);
                    }
                    far = kind == PLUS || kind == MINUS ? kind : NO_TOKEN;
                    if (far == NO_TOKEN) {
                        return;
                    }
                }
                if (fault == 0) {
                    advance();
                }
            }
        }

        /** U, as a part of THE LAW. */
        private int expectUnit() {
            int part = kind == NUMBER ? numbers[at] : ~kind;
            if (kind == NUMBER || kind >= RUN && kind <= LAST_VALUE) {
                advance();
            } else {
                fail(1);
            }
            return part;
        }

        /** B with its A: as "and" goes ahead, an "or" waits till the A behind it is whole. */
        private void condition(int open) {
            boolean and = false;
            boolean or = false;
            for (int i = 0; i < MOST_TAPE && fault == 0; i++) {
                single(open);
                if (and) {
                    law.add(~AND);
                }
                and = kind == AND;
                if (!and && or) {
                    law.add(~OR);
                }
                or = kind == OR || and && or;
                if (fault != 0 || !and && !or) {
                    return;
                }
                advance();
            }
        }

        /** C. */
        private void single(int open) {
            int first = kind;
            if (first != NOT && first != OPEN) {
                sumOf();
                int sign = kind;
                expect(sign == LESS || sign == MORE ? sign : ALIKE);
                if (fault == 0) {
                    sumOf();
                    law.add(~sign);
                }
                return;
            }
            if (open >= MOST_OPEN) {
                fail(3);
                return;
            }
            advance();
            if (first == NOT) {
                single(open + 1);
                law.add(~NOT);
            } else {
                condition(open + 1);
                expect(CLOSE);
            }
        }
    }

    /** All that THE IMAGE holds. */
    private static final class Whole {
        final Porch porch = new Porch(false);
        final Lines book = new Lines(MOST_BOOKED);
        final Law law = new Law();
        final Lines calls = new Lines(MOST_LINES);
        final Lines house = new Lines(MOST_LINES);
        final Lines kin = new Lines(MOST_LINES);
        final Told told = new Told();

        void copyFrom(Whole other) {
            porch.copyFrom(other.porch);
            book.copyFrom(other.book);
            law.copyFrom(other.law);
            calls.copyFrom(other.calls);
            house.copyFrom(other.house);
            kin.copyFrom(other.kin);
            told.copyFrom(other.told);
        }

        void learn(int k, Reader reader) {
            switch (k) {
                case THE_LAW:
                    law.copyFrom(reader.law);
                    break;
                case CALLS:
                    calls.copyFrom(reader.lines);
                    break;
                case HOUSE:
                    house.copyFrom(reader.lines);
                    break;
                default:
                    kin.copyFrom(reader.lines);
                    break;
            }
        }
    }

    /** What goes on upon a porch, the real one or one in thought. */
    private static final class Doing {
        private static final int DRAWN_OF = 1000;
        private static final int SURE_ENOUGH = 500;

        private final Whole whole;
        private final int[] values = new int[VALUES];

        Doing(Whole whole) {
            this.whole = whole;
        }

        /** What THE LAW tells for a word; the PERSON may be NONE. */
        int ask(Porch porch, int word, int chair, int person) {
            if (!porch.isChair(chair)) {
                return 0;
            }
            boolean known = porch.isPerson(person);
            int away = porch.awaySet();
            values[RUN_VALUE] = porch.run[chair];
            values[SWING_VALUE] = porch.swing[chair];
            values[DEAR_VALUE] = known ? porch.dear[person] : 0;
            values[MINDS_VALUE] = known ? Integer.bitCount(whole.kin.minders(person) & ~away) : 0;
            values[MISSED_VALUE] = known ? porch.missed[person] : 0;
            values[SAT_VALUE] = known ? porch.sat[person] : 0;
            values[DRAUGHT_VALUE] = porch.draught;
            values[HERE_VALUE] = porch.persons - Integer.bitCount(away);
            values[MINUTE_VALUE] = porch.minute;
            return whole.law.tell(word, values);
        }

        private void note(Porch porch, int what, int who, int much) {
            if (!porch.inThought) {
                whole.book.add(porch.minute, what, who, much);
            }
        }

        /** False if he finds no seat there. */
        boolean sitDown(Porch porch, int person, int chair) {
            if (!porch.is(person, STANDING) || !porch.isFree(chair)) {
                return false;
            }
            porch.taken[chair] = person;
            porch.where[person] = SITTING;
            porch.sat[person]++;
            note(porch, SAT_DOWN, person, chair);
            return true;
        }

        void getUp(Porch porch, int person) {
            int chair = porch.is(person, SITTING) ? porch.chairOf(person) : NONE;
            if (!porch.isChair(chair)) {
                return;
            }
            porch.where[person] = STANDING;
            porch.taken[chair] = NONE;
            int far = ask(porch, SWINGS, chair, person);
            porch.rock(chair, far, person);
            note(porch, ROSE, person, far);
        }

        private void goAway(Porch porch, int person) {
            if (porch.is(person, STANDING)) {
                porch.where[person] = AWAY;
                note(porch, WENT, person, porch.here());
            }
        }

        private void comeBack(Porch porch, int person) {
            if (porch.is(person, AWAY)) {
                porch.where[person] = STANDING;
                note(porch, CAME, person, porch.here());
            }
        }

        void letCat(Porch porch, int chair) {
            if (!porch.rocks(chair)) {
                return;
            }
            int likely = ask(porch, JUMPS, chair, porch.rocksFor[chair]);
            boolean jumps = porch.inThought ? likely >= SURE_ENOUGH : likely > 0 && porch.draw(DRAWN_OF) < likely;
            if (jumps) {
                note(porch, STILLED, chair, porch.swing[chair]);
                porch.stilled++;
                porch.rock(chair, 0, NONE);
            }
        }

        /** A MINUTE; how often one found no seat in it. */
        int passMinute(Porch porch) {
            int seatless = 0;
            for (int i = 0; i < whole.calls.count; i++) {
                if (whole.calls.cell(i, MINUTE) == porch.minute && !answer(porch, i)) {
                    seatless++;
                }
            }
            for (int i = 0; i < whole.house.count; i++) {
                if (whole.house.cell(i, MINUTE) == porch.minute) {
                    keepHouse(porch, i);
                }
            }
            for (int c = 0; c < porch.chairs; c++) {
                fade(porch, c);
            }
            porch.minute++;
            return seatless;
        }

        /** False if one found no seat. */
        private boolean answer(Porch porch, int line) {
            int person = whole.calls.cell(line, WHO);
            switch (whole.calls.cell(line, WHAT)) {
                case SIT:
                    return !porch.is(person, STANDING) || findsSeat(porch, person, whole.calls.cell(line, MUCH));
                case RISE:
                    getUp(porch, person);
                    return true;
                case GO:
                    getUp(porch, person);
                    goAway(porch, person);
                    return true;
                default:
                    comeBack(porch, person);
                    return true;
            }
        }

        private boolean findsSeat(Porch porch, int person, int chair) {
            boolean found = sitDown(porch, person, chair);
            if (!found) {
                note(porch, NO_SEAT, person, chair);
            }
            return found;
        }

        private void keepHouse(Porch porch, int line) {
            switch (whole.house.cell(line, WHAT)) {
                case CAT:
                    letCat(porch, whole.house.cell(line, WHO));
                    break;
                case DRAUGHT:
                    porch.draught = whole.house.cell(line, MUCH);
                    break;
                default:
                    hush(porch);
                    break;
            }
        }

        private void hush(Porch porch) {
            for (int c = 0; c < porch.chairs; c++) {
                if (porch.rocks(c)) {
                    porch.rock(c, porch.swing[c] / 2, porch.rocksFor[c]);
                }
            }
        }

        private void fade(Porch porch, int chair) {
            if (!porch.rocks(chair)) {
                return;
            }
            int person = porch.rocksFor[chair];
            if (porch.isPerson(person)) {
                porch.missed[person]++;
            }
            int less = ask(porch, FADES, chair, person);
            porch.rock(chair, Math.max(0, porch.swing[chair] - less), person);
        }
    }

    /** What can be undone: a ring of porches as they were before. */
    private static final class Past {
        private final Porch[] porches = new Porch[MOST_UNDONE];
        private final int[] booked = new int[MOST_UNDONE];
        private int next = 0;
        int count = 0;

        Past() {
            for (int i = 0; i < MOST_UNDONE; i++) {
                porches[i] = new Porch(false);
            }
        }

        void forget() {
            count = 0;
        }

        void keep(Porch porch, int lines) {
            Porch before = porches[next];
            if (before == null) {
                return;
            }
            before.copyFrom(porch);
            booked[next] = lines;
            next = (next + 1) % MOST_UNDONE;
            count = Math.min(MOST_UNDONE, count + 1);
        }

        boolean goBack(Porch porch, Lines book) {
            if (count == 0) {
                return false;
            }
            count--;
            next = (next + MOST_UNDONE - 1) % MOST_UNDONE;
            Porch before = porches[next];
            if (before == null) {
                return false;
            }
            porch.copyFrom(before);
            book.count = booked[next];
            return true;
        }
    }

    /** So many numbers at most, as they were told. */
    private static final class Row {
        final int[] values;
        int count = 0;

        Row(int most) {
            values = new int[most];
        }

        int clear() {
            count = 0;
            return 0;
        }

        int add(int v) {
            if (count >= values.length) {
                return NONE;
            }
            values[count] = v;
            count++;
            return count;
        }

        int addUnlike(int v) {
            for (int i = 0; i < count && i < values.length; i++) {
                if (values[i] == v) {
                    return NONE;
                }
            }
            return add(v);
        }

        int greatest() {
            int most = 0;
            for (int i = 0; i < count && i < values.length; i++) {
                most = Math.max(most, values[i]);
            }
            return most;
        }

        int get(int i) {
            return i >= 0 && i < count && i < values.length ? values[i] : 0;
        }

        void copyFrom(Row other) {
            if (other.values.length == values.length) {
                System.arraycopy(other.values, 0, values, 0, values.length);
                count = other.count;
            }
        }
    }

    /** What is told for thought. */
    private static final class Told {
        private static final int PAIRED = 32;

        final Row ticks = new Row(4);
        final Row couples = new Row(10);
        final Row points = new Row(8);
        final Row weights = new Row(MOST_WEIGHTS);
        final Row steps = new Row(10);
        final Row coins = new Row(6);
        final int[] full = new int[RUG_SIDE * RUG_SIDE];

        /** Two small numbers, 0 at least, as the one number that a Row takes. */
        static int pair(int a, int b) {
            return a * PAIRED + b;
        }

        static int first(int pair) {
            return pair / PAIRED;
        }

        static int second(int pair) {
            return pair % PAIRED;
        }

        void copyFrom(Told other) {
            ticks.copyFrom(other.ticks);
            couples.copyFrom(other.couples);
            points.copyFrom(other.points);
            weights.copyFrom(other.weights);
            steps.copyFrom(other.steps);
            coins.copyFrom(other.coins);
            System.arraycopy(other.full, 0, full, 0, full.length);
        }
    }

    /** What is only thought out: its rows are made once and written over by each call. */
    private static final class Puzzles {
        private final Told told;
        private final int[] row = new int[SCRATCH];
        private final int[] second = new int[SCRATCH];
        private final int[] ways = new int[(1 << MOST_SEATED) * MOST_SEATED];
        private final int[] fewest = new int[1 << MOST_WEIGHTS];

        Puzzles(Told told) {
            this.told = told;
        }

        /** TICKS one by one: what met so far meets again by one period, in which the next must fall. */
        int meeting(boolean again) {
            int t = 0;
            int period = 1;
            for (int i = 0; i < told.ticks.count; i++) {
                int time = Math.max(1, Told.first(told.ticks.get(i)));
                int rest = Told.second(told.ticks.get(i));
                int tried = 0;
                while (tried < time && t % time != rest) {
                    t += period;
                    tried++;
                }
                if (tried >= time) {
                    return NONE;
                }
                period = period / divisor(period, time) * time;
            }
            return again ? period : t;
        }

        /** The greatest that divides both, which are above 0. */
        private static int divisor(int a, int b) {
            int high = Math.max(1, a);
            int low = Math.max(0, b);
            for (int i = 0; i < 64 && low != 0; i++) {
                int rest = high % low;
                high = low;
                low = rest;
            }
            return high;
        }

        /** SEATED. A ring is counted with 0 on the first place: turned round each gives n. */
        int orders(int n, boolean ring) {
            int all = (1 << n) - 1;
            forbid();
            for (int i = 0; i < (all + 1) * MOST_SEATED && i < ways.length; i++) {
                ways[i] = 0;
            }
            for (int i = 0; i < (ring ? 1 : n); i++) {
                ways[(1 << i) * MOST_SEATED + i] = 1;
            }
            for (int set = 1; set < all; set++) {
                for (int last = 0; last < n; last++) {
                    seatNext(set, last, n);
                }
            }
            int sum = 0;
            for (int last = 0; last < n; last++) {
                boolean closes = !ring || (row[last] & 1) == 0;
                sum += closes ? ways[all * MOST_SEATED + last] : 0;
            }
            return ring ? n * sum : sum;
        }

        /** For each the set of those beside whom he won't sit. */
        private void forbid() {
            for (int i = 0; i < MOST_SEATED; i++) {
                row[i] = 0;
            }
            for (int i = 0; i < told.couples.count; i++) {
                int a = Told.first(told.couples.get(i));
                int b = Told.second(told.couples.get(i));
                if (a < MOST_SEATED && b < MOST_SEATED) {
                    row[a] |= 1 << b;
                    row[b] |= 1 << a;
                }
            }
        }

        private void seatNext(int set, int last, int n) {
            int so = ways[set * MOST_SEATED + last];
            for (int i = 0; i < n && so > 0; i++) {
                if ((set & 1 << i) == 0 && (row[last] & 1 << i) == 0) {
                    ways[(set | 1 << i) * MOST_SEATED + i] += so;
                }
            }
        }

        private int x(int i) {
            return Told.first(told.points.get(i));
        }

        private int y(int i) {
            return Told.second(told.points.get(i));
        }

        int mostOnLine() {
            int n = told.points.count;
            int most = Math.min(n, 1);
            for (int i = 0; i < n; i++) {
                for (int j = i + 1; j < n; j++) {
                    int on = 0;
                    for (int k = 0; k < n; k++) {
                        on += (x(j) - x(i)) * (y(k) - y(i)) == (x(k) - x(i)) * (y(j) - y(i)) ? 1 : 0;
                    }
                    most = Math.max(most, on);
                }
            }
            return most;
        }

        int distance(boolean greatest) {
            int found = NONE;
            for (int i = 0; i < told.points.count; i++) {
                for (int j = i + 1; j < told.points.count; j++) {
                    int dx = x(j) - x(i);
                    int dy = y(j) - y(i);
                    int d = dx * dx + dy * dy;
                    if (found == NONE || (greatest ? d > found : d < found)) {
                        found = d;
                    }
                }
            }
            return found;
        }

        /** RUG by its upper left place: row by row downwards the free width can only shrink. */
        int rugs(boolean greatest) {
            int many = 0;
            int most = 0;
            for (int place = 0; place < RUG_SIDE * RUG_SIDE; place++) {
                int left = place % RUG_SIDE;
                int wide = RUG_SIDE - left;
                int top = place / RUG_SIDE;
                for (int y = top; y < RUG_SIDE && wide > 0; y++) {
                    wide = Math.min(wide, freeFrom(left, y));
                    many += wide;
                    most = Math.max(most, wide * (y - top + 1));
                }
            }
            return greatest ? most : many;
        }

        private int freeFrom(int x, int y) {
            int wide = 0;
            while (x + wide < RUG_SIDE && told.full[y * RUG_SIDE + x + wide] == 0) {
                wide++;
            }
            return wide;
        }

        /** Lays the digits of a STACK's order into the row: how many, 0 if it is none. */
        int readOrder(int order) {
            int one = 10;
            int n = 1;
            while (n < MOST_ORDER && order / one >= 10) {
                one *= 10;
                n++;
            }
            if (order / one != 1) {
                return 0;
            }
            int rest = order - one;
            int seen = 0;
            for (int i = n - 1; i >= 0; i--) {
                row[i] = rest % 10;
                seen |= 1 << row[i];
                rest /= 10;
            }
            return seen == (1 << n) - 1 ? n : 0;
        }

        int letsOut(int n) {
            int laid = 0;
            int high = 0;
            for (int i = 0; i < n && i < SCRATCH; i++) {
                for (; laid <= row[i] && high < SCRATCH; laid++) {
                    second[high] = laid;
                    high++;
                }
                if (high == 0 || second[high - 1] != row[i]) {
                    return 0;
                }
                high--;
            }
            return 1;
        }

        /** As few rising rows as the longest falling one has numbers, of which no two share a row. */
        int tracks(int n) {
            int most = 0;
            for (int i = 0; i < n && i < SCRATCH; i++) {
                second[i] = 1;
                for (int j = 0; j < i; j++) {
                    if (row[j] > row[i]) {
                        second[i] = Math.max(second[i], second[j] + 1);
                    }
                }
                most = Math.max(most, second[i]);
            }
            return most;
        }

        int firstFit(int s) {
            int used = 0;
            for (int i = 0; i < told.weights.count; i++) {
                int weight = told.weights.get(i);
                int trunk = 0;
                while (trunk < used && row[trunk] + weight > s) {
                    trunk++;
                }
                if (trunk == used && used < SCRATCH) {
                    row[used] = 0;
                    used++;
                }
                if (trunk < SCRATCH) {
                    row[trunk] += weight;
                }
            }
            return used;
        }

        /** For each set of weights the least of how many trunks times 100 and what lies in the last. */
        int fewestTrunks(int s) {
            int all = (1 << told.weights.count) - 1;
            fewest[0] = 0;
            for (int set = 1; set <= all && set < fewest.length; set++) {
                fewest[set] = 100 * (MOST_WEIGHTS + 1);
                for (int i = 0; i < told.weights.count; i++) {
                    if ((set & 1 << i) != 0) {
                        int packed = packed(fewest[set ^ 1 << i], told.weights.get(i), s);
                        fewest[set] = Math.min(fewest[set], packed);
                    }
                }
            }
            return all < fewest.length ? fewest[all] / 100 : NONE;
        }

        private static int packed(int before, int weight, int s) {
            boolean fits = before >= 100 && before % 100 + weight <= s;
            return fits ? before + weight : (before / 100 + 1) * 100 + weight;
        }

        static int throwsOf(int a) {
            int n = 0;
            while (n < 30 && a >> (n + 1) > 0) {
                n++;
            }
            return n;
        }

        /** THE FIT of a to b, which are of as many throws. */
        static int fit(int a, int b) {
            int n = throwsOf(a);
            int sum = 0;
            for (int k = 1; k <= n; k++) {
                int mask = (1 << k) - 1;
                if ((a & mask) == (b >> (n - k) & mask)) {
                    sum += 1 << k;
                }
            }
            return sum;
        }

        static int likely(int a, int b, boolean below) {
            int x = fit(b, b) - fit(b, a);
            int y = fit(a, a) - fit(a, b);
            int common = Math.max(1, divisor(x + y, x));
            return (below ? x + y : x) / common;
        }

        static int handsApart(int t) {
            int d = 11 * t % ROUND;
            return Math.min(d, ROUND - d);
        }

        static int handsAsNear(int t) {
            int bound = handsApart(t);
            int many = 0;
            for (int i = 0; i <= t; i++) {
                many += handsApart(i) <= bound ? 1 : 0;
            }
            return many;
        }

        private long stepSet() {
            long set = 0;
            for (int i = 0; i < told.steps.count; i++) {
                set |= 1L << told.steps.get(i);
            }
            return set;
        }

        private static boolean stands(long set, int v) {
            return v >= 0 && v <= MOST_STEP && (set >> v & 1) == 1;
        }

        int threes() {
            long set = stepSet();
            int many = 0;
            for (int low = 0; low <= MOST_STEP; low++) {
                for (int d = 1; stands(set, low) && low + 2 * d <= MOST_STEP; d++) {
                    many += stands(set, low + d) && stands(set, low + 2 * d) ? 1 : 0;
                }
            }
            return many;
        }

        int longestStair() {
            long set = stepSet();
            int most = Math.min(told.steps.count, 1);
            for (int low = 0; low <= MOST_STEP; low++) {
                for (int d = 1; stands(set, low) && low + d <= MOST_STEP; d++) {
                    int many = 1;
                    while (many <= MOST_STEP && stands(set, low + many * d)) {
                        many++;
                    }
                    most = Math.max(most, many);
                }
            }
            return most;
        }

        /** SLIDE: each slide is tried, from the least square on, till one leaves a lost game. */
        int winningSlide() {
            int n = told.coins.count;
            sortCoins(n);
            for (int i = 0; i < n && i < SCRATCH; i++) {
                int square = row[i];
                int room = roomBelow(i);
                for (int by = 1; by <= room; by++) {
                    row[i] = square - by;
                    if (isLost(n)) {
                        return square * 100 + by;
                    }
                }
                row[i] = square;
            }
            return NONE;
        }

        private void sortCoins(int n) {
            for (int i = 0; i < n && i < SCRATCH; i++) {
                int v = told.coins.get(i);
                int j = i;
                while (j > 0 && row[j - 1] > v) {
                    row[j] = row[j - 1];
                    j--;
                }
                row[j] = v;
            }
        }

        private int roomBelow(int i) {
            return i > 0 ? row[i - 1] < row[i] ? row[i] - row[i - 1] - 1 : 0 : row[0];
        }

        /** Coins go in couples from the highest down; the room within each couple is a heap of Nim. */
        private boolean isLost(int n) {
            int nim = 0;
            for (int i = Math.min(n, SCRATCH) - 1; i >= 0; i -= 2) {
                nim ^= roomBelow(i);
            }
            return nim == 0;
        }
    }
}
