/** Of the draws, chairs and persons, and of the calls that tell them (Terms 1; promises 1 to 6, 12, 13). */
final class PorchBounds extends Bounds {
    private static final long TIMES = 1664525L;
    private static final long MORE = 1013904223L;
    private static final long INTS = 0xffffffffL;

    PorchBounds(Check check, Sentences sentences) {
        super(check, sentences);
    }

    void all() {
        in("Terms");
        quotients();
        draws();
        chairs();
        persons();
        porch1();
        in("Promise 1: A new object");
        newObject();
        in("Promise 2: state");
        state();
        in("Promise 3: chair");
        chair();
        in("Promise 4: person");
        person();
        in("Promise 5: set");
        set();
        in("Promise 6: act");
        act();
        in("Promise 12: of");
        ofChair();
        in("Promise 13: who");
        whoPerson();
    }

    private void quotients() {
        of("Quotients go downwards.");
        int[] swings = {99, 31, 3, 2, 1};
        for (int swing : swings) {
            RockingPorch x = rocking(swing);
            law(x, "fades 0;");
            house(x, "at 0 hush;");
            x.minutes(1);
            due("hushed " + swing, swing / 2, x.of(0, 1));
        }
    }

    private static long next(int state) {
        return state * TIMES + MORE & INTS;
    }

    private static int draw(int state) {
        return (int) ((next(state) >> 8) % 1000);
    }

    private static int stateThatDraws(int drawn) {
        int state = 0;
        while (draw(state) != drawn) {
            state++;
        }
        return state;
    }

    private void draws() {
        of("STATE of draws (an int, 0 at first);");
        RockingPorch x = porch();
        due("at first", 0, x.look(9));
        x.state(LOW);
        due("the least int", LOW, x.look(9));
        x.state(HIGH);
        due("the greatest int", HIGH, x.look(9));
        of("a DRAW of m: it becomes 1664525 times itself + 1013904223 (ints, which wrap), then it is its highest 24 bits (without sign) modulo m.");
        int[] states = {0, 1, -1, LOW, HIGH, 1 << 30, -(1 << 30), 123456789, stateThatDraws(0), stateThatDraws(999)};
        int below = 0;
        for (int state : states) {
            below += (int) next(state) < 0 ? 1 : 0;
            int drawn = draw(state);
            drawAt(state, drawn, false);
            drawAt(state, drawn + 1, true);
        }
        due("states below 0 come, too", true, below > 0 && below < states.length);
    }

    private void drawAt(int state, int jumps, boolean stilled) {
        RockingPorch x = rocking(30);
        law(x, "jumps " + jumps + ";");
        x.state(state);
        x.act(2, 0, 0);
        due("of " + state + " jumps " + jumps, stilled ? 0 : 30, x.of(0, 1));
        due("state then", jumps == 0 ? state : (int) next(state), x.look(9));
    }

    private void chairs() {
        of("CHAIRS 0 .. 9 as they come:");
        RockingPorch x = new RockingPorch();
        for (int i = 0; i < 10; i++) {
            due("chair " + i, i, x.chair(i));
        }
        due("an eleventh", NONE, x.chair(0));
        due("still ten", 10, x.look(0));
        of("RUN 0 .. 9 (how smoothly it runs),");
        due("of the first", 0, x.of(0, 0));
        due("of the last", 9, x.of(9, 0));
        due("below 0", false, x.set(0, 0, -1));
        due("above 9", false, x.set(0, 0, 10));
        due("to 9", true, x.set(0, 0, 9));
        due("to 0", true, x.set(0, 9, 0));
        of("SWING 0 .. 99 (0 at first: it is still),");
        due("at first", 0, x.of(9, 1));
        due("free at first", 1023, x.look(3));
        RockingPorch y = rocking(30);
        due("to 99", true, y.set(2, 0, 99));
        due("is 99", 99, y.of(0, 1));
        due("to 100", false, y.set(2, 0, 100));
        due("below 0", false, y.set(2, 0, -1));
        due("to 0", true, y.set(2, 0, 0));
        due("it is still", 3, y.look(3));
        of("FOR a PERSON (NONE at first, and while SWING is 0),");
        due("at first", NONE, x.of(9, 2));
        due("while it is 0", NONE, y.of(0, 2));
        due("person 0", 0, rocking(1).of(0, 2));
        of("TAKEN by a PERSON (NONE at first; while it is TAKEN SWING is 0).");
        due("at first", NONE, x.of(9, 3));
        RockingPorch z = porch();
        z.act(0, 0, 0);
        due("by 0", 0, z.of(0, 3));
        due("swing", 0, z.of(0, 1));
        due("can't be told to rock", false, z.set(2, 0, 5));
        due("nor not to", false, z.set(2, 0, 0));
        z.minutes(2);
        due("swing behind minutes", 0, z.of(0, 1));
        due("taken still", 0, z.of(0, 3));
    }

    private void persons() {
        of("PERSONS 0 .. 13 as they come:");
        RockingPorch x = new RockingPorch();
        x.chair(0);
        for (int i = 0; i < 14; i++) {
            due("person " + i, i, x.person(i % 10));
        }
        due("a fifteenth", NONE, x.person(0));
        due("still fourteen", 14, x.look(1));
        of("DEAR 0 .. 9,");
        due("of the first", 0, x.who(0, 0));
        due("of the tenth", 9, x.who(9, 0));
        due("below 0", false, x.set(1, 0, -1));
        due("above 9", false, x.set(1, 0, 10));
        due("to 9", true, x.set(1, 13, 9));
        due("to 0", true, x.set(1, 9, 0));
        of("IS 0 away, 1 standing, 2 sitting (1 at first),");
        due("at first", 1, x.who(13, 1));
        x.act(0, 13, 0);
        due("sitting", 2, x.who(13, 1));
        calls(x, "at 0 person 12 go;");
        x.minutes(1);
        due("away", 0, x.who(12, 1));
        of("MISSED, SAT (ints, 0 at first).");
        due("missed at first", 0, x.who(0, 2));
        due("sat at first", 0, x.who(0, 3));
        due("sat once", 1, x.who(13, 3));
        RockingPorch y = rocking(30);
        law(y, "fades 0;");
        for (int i = 0; i < 5; i++) {
            y.minutes(60);
        }
        due("missed as an int", 300, y.who(0, 2));
    }

    private void porch1() {
        of("DRAUGHT 0 .. 9 (0 at first),");
        RockingPorch x = new RockingPorch();
        due("at first", 0, x.look(5));
        due("to 9", true, x.set(3, 0, 9));
        due("is 9", 9, x.look(5));
        due("above 9", false, x.set(3, 0, 10));
        due("below 0", false, x.set(3, 0, -1));
        due("is 9 still", 9, x.look(5));
        of("STILLED (an int, 0 at first),");
        due("at first", 0, x.look(6));
        of("MINUTE 0 .. 9999 (0 at first).");
        due("at first", 0, x.look(7));
        for (int i = 0; i < 166; i++) {
            x.minutes(60);
        }
        x.minutes(39);
        due("the last", 9999, x.look(7));
        due("none behind it", NONE, x.minutes(1));
        due("the last still", 9999, x.look(7));
    }

    private void newObject() {
        of("A porch without chairs.");
        RockingPorch x = new RockingPorch();
        for (int what = 0; what <= 14; what++) {
            due("look " + what, 0, x.look(what));
        }
        due("chair 0", NONE - 1, x.of(0, 0));
        due("person 0", NONE - 1, x.who(0, 0));
        due("line 0", NONE, x.book(0, 0));
        due("no fault", 0, x.fault(0));
        due("no place", NONE, x.fault(1));
        due("a tape without bytes", false, x.end(1));
        due("no image", false, x.image(false));
        due("nothing to undo", false, x.undo());
        due("a minute", 0, x.minutes(1));
        for (int what = 0; what <= 3; what++) {
            due("goes " + what, 0, x.goes(60, what));
        }
    }

    private void state() {
        of("STATE is told: what it was.");
        RockingPorch x = new RockingPorch();
        int was = 0;
        int[] states = {1, -1, LOW, HIGH, 0, 7};
        for (int state : states) {
            due("told " + state, was, x.state(state));
            due("is told", state, x.look(9));
            was = state;
        }
    }

    private void chair() {
        of("A CHAIR: the number; NONE if one can't be, or there are ten.");
        RockingPorch x = new RockingPorch();
        int[] wrong = {-1, 10, LOW, HIGH};
        for (int run : wrong) {
            due("run " + run, NONE, x.chair(run));
        }
        due("none came", 0, x.look(0));
        due("run 0", 0, x.chair(0));
        due("run 9", 1, x.chair(9));
        for (int i = 2; i < 10; i++) {
            due("the number", i, x.chair(5));
        }
        due("ten are there", NONE, x.chair(5));
        due("ten", 10, x.look(0));
    }

    private void person() {
        of("A PERSON: the number; NONE if one can't be, or there are fourteen.");
        RockingPorch x = new RockingPorch();
        int[] wrong = {-1, 10, LOW, HIGH};
        for (int dear : wrong) {
            due("dear " + dear, NONE, x.person(dear));
        }
        due("none came", 0, x.look(1));
        due("dear 0", 0, x.person(0));
        due("dear 9", 1, x.person(9));
        for (int i = 2; i < 14; i++) {
            due("the number", i, x.person(5));
        }
        due("fourteen are there", NONE, x.person(5));
        due("fourteen", 14, x.look(1));
    }

    private void set() {
        of("What 0 RUN of CHAIR who, 1 DEAR of PERSON who, 2 SWING of CHAIR who (it rocks; 0 .. 99), 3 DRAUGHT (who not asked): true;");
        RockingPorch x = rocking(30);
        due("run 9", true, x.set(0, 0, 9));
        due("is run", 9, x.of(0, 0));
        due("run 0", true, x.set(0, 1, 0));
        due("of that one alone", 9, x.of(0, 0));
        due("dear 9", true, x.set(1, 0, 9));
        due("is dear", 9, x.who(0, 0));
        due("dear 0", true, x.set(1, 1, 0));
        due("of that one alone", 9, x.who(0, 0));
        due("swing 1", true, x.set(2, 0, 1));
        due("is swing", 1, x.of(0, 1));
        due("for him still", 0, x.of(0, 2));
        due("swing 99", true, x.set(2, 0, 99));
        due("it does not rock", false, x.set(2, 1, 5));
        due("nor has it swing", 0, x.of(1, 1));
        due("swing 0", true, x.set(2, 0, 0));
        due("for none", NONE, x.of(0, 2));
        due("it does not rock then", false, x.set(2, 0, 0));
        int[] who = {0, -1, 99, LOW, HIGH};
        for (int i = 0; i < who.length; i++) {
            due("draught, who " + who[i], true, x.set(3, who[i], i + 5));
            due("is draught", i + 5, x.look(5));
        }
        due("draught 0", true, x.set(3, 0, 0));
        of("false if one can't be, or another what.");
        RockingPorch y = rocking(30);
        String before = seen(y);
        int[][] wrong = {{0, 2, 5}, {0, -1, 5}, {0, LOW, 5}, {0, HIGH, 5}, {0, 0, 10}, {0, 0, -1}, {0, 0, HIGH}, {0, 0, LOW},
            {1, 3, 5}, {1, -1, 5}, {1, LOW, 5}, {1, HIGH, 5}, {1, 0, 10}, {1, 0, -1}, {1, 0, HIGH}, {1, 0, LOW},
            {2, 1, 5}, {2, 2, 5}, {2, -1, 5}, {2, LOW, 5}, {2, HIGH, 5}, {2, 0, 100}, {2, 0, -1}, {2, 0, HIGH}, {2, 0, LOW},
            {3, 0, 10}, {3, 0, -1}, {3, 0, HIGH}, {3, 0, LOW}, {4, 0, 0}, {-1, 0, 0}, {LOW, 0, 0}, {HIGH, 0, 0}};
        for (int[] w : wrong) {
            due("set " + w[0] + " " + w[1] + " " + w[2], false, y.set(w[0], w[1], w[2]));
        }
        dueSame("none of them", before, y);
    }

    private void act() {
        of("What 0 PERSON who SITS on CHAIR v (he finds a seat), 1 who RISES, 2 the CAT at CHAIR who, 3 to STILL CHAIR who (1, 2, 3: v not asked): true;");
        int[] v = {0, -1, 99, LOW, HIGH};
        for (int any : v) {
            RockingPorch x = porch();
            due("sits", true, x.act(0, 0, 1));
            due("on 1", 1, x.who(0, 4));
            due("rises, v " + any, true, x.act(1, 0, any));
            due("stands", 1, x.who(0, 1));
            law(x, "jumps 1000;");
            due("the cat, v " + any, true, x.act(2, 1, any));
            due("stilled by it", 1, x.look(6));
            x.undo();
            due("by hand, v " + any, true, x.act(3, 1, any));
            due("stilled by hand", 0, x.of(1, 1));
        }
        of("false if it can't be, or another what.");
        RockingPorch x = rocking(30);
        x.act(0, 1, 1);
        calls(x, "at 0 person 2 go;");
        law(x, "fades 0;");
        x.minutes(1);
        String before = seen(x);
        int[][] wrong = {{0, 0, 0}, {0, 0, 1}, {0, 0, 2}, {0, 0, -1}, {0, 0, LOW}, {0, 0, HIGH}, {0, 1, 1}, {0, 2, 1}, {0, 3, 1},
            {0, -1, 1}, {0, LOW, 1}, {0, HIGH, 1}, {1, 0, 0}, {1, 2, 0}, {1, 3, 0}, {1, -1, 0}, {1, LOW, 0}, {1, HIGH, 0},
            {2, 1, 0}, {2, 2, 0}, {2, -1, 0}, {2, LOW, 0}, {2, HIGH, 0}, {3, 1, 0}, {3, 2, 0}, {3, -1, 0}, {3, LOW, 0}, {3, HIGH, 0},
            {4, 0, 0}, {-1, 0, 0}, {LOW, 0, 0}, {HIGH, 0, 0}};
        for (int[] w : wrong) {
            due("act " + w[0] + " " + w[1] + " " + w[2], false, x.act(w[0], w[1], w[2]));
        }
        dueSame("none of them", before, x);
        RockingPorch y = porch();
        y.act(0, 1, 0);
        due("on a free one a sitting one", false, y.act(0, 1, 1));
        due("a still one has no cat", false, y.act(2, 1, 0));
        due("nor a hand", false, y.act(3, 1, 0));
        y.minutes(1);
        calls(y, "at 1 person 2 go;");
        y.minutes(1);
        due("on a free one an away one", false, y.act(0, 2, 1));
        of("(2: true if it does not jump, too.)");
        RockingPorch z = rocking(30);
        law(z, "jumps 0;");
        due("0", true, z.act(2, 0, 0));
        due("rocks on", 30, z.of(0, 1));
        z.state(stateThatDraws(999));
        law(z, "jumps 999;");
        due("not below", true, z.act(2, 0, 0));
        due("rocks on", 30, z.of(0, 1));
    }

    private void ofChair() {
        of("Of a CHAIR what 0 RUN, 1 SWING, 2 FOR, 3 TAKEN, 4 fades, 5 jumps (4, 5: rocking or not), 10 + p swings, if PERSON p (wherever he is) rose from it, all as it is.");
        RockingPorch x = porch("49", "3105050505050");
        x.person(9);
        x.act(0, 1, 0);
        x.act(1, 1, 0);
        x.act(0, 2, 1);
        int[] rocking = {4, 10, 1, NONE, 6, 850};
        int[] taken = {9, 0, NONE, 2, 1, 900};
        for (int what = 0; what <= 5; what++) {
            due("of one that rocks " + what, rocking[what], x.of(0, what));
            due("of one that is taken " + what, taken[what], x.of(1, what));
        }
        due("swings 0", 30, x.of(0, 10));
        due("swings the last", 90, x.of(1, 23));
        kin(x, "person 0 minds 3;person 4 minds 3;");
        calls(x, "at 0 person 3 go;at 0 person 4 go;");
        x.minutes(1);
        due("of one away, with those who mind him here", 55, x.of(1, 13));
        of("NONE - 1 if there is none such, or another what.");
        int[] none = {2, -1, LOW, HIGH};
        for (int chair : none) {
            due("of chair " + chair, NONE - 1, x.of(chair, 0));
            due("swings of chair " + chair, NONE - 1, x.of(chair, 10));
        }
        int[] wrong = {-1, 6, 7, 8, 9, 24, LOW, HIGH};
        for (int what : wrong) {
            due("what " + what, NONE - 1, x.of(0, what));
        }
        RockingPorch y = porch();
        due("the last person", 0, y.of(0, 12));
        due("no person 3", NONE - 1, y.of(0, 13));
        due("without persons", NONE - 1, porch("4", "").of(0, 10));
    }

    private void whoPerson() {
        of("Of a PERSON what 0 DEAR, 1 IS, 2 MISSED, 3 SAT, 4 his CHAIR (NONE), 5 the CHAIRS that rock FOR him (a set), 6 who minds him (a set, away or not).");
        RockingPorch x = porch("4400000009", "31055555555555");
        int[] chairs = {0, 1, 9};
        for (int chair : chairs) {
            x.act(0, 0, chair);
            x.act(1, 0, 0);
        }
        x.act(0, 0, 5);
        kin(x, "person 13 minds 0;person 1 minds 0;person 13 minds 0;person 0 minds 13;");
        calls(x, "at 0 person 1 go;");
        law(x, "fades 1;");
        x.minutes(1);
        int[] due = {3, 2, 3, 4, 5, 1 << 0 | 1 << 1 | 1 << 9, 1 << 1 | 1 << 13};
        for (int what = 0; what < due.length; what++) {
            due("what " + what, due[what], x.who(0, what));
        }
        due("one away", 0, x.who(1, 1));
        due("without a chair", NONE, x.who(1, 4));
        due("none rock for him", 0, x.who(1, 5));
        due("nobody minds him", 0, x.who(1, 6));
        due("minds the last", 1, x.who(13, 6));
        of("NONE - 1 if there is none such, or another what.");
        int[] none = {14, -1, LOW, HIGH};
        for (int person : none) {
            due("person " + person, NONE - 1, x.who(person, 0));
        }
        int[] wrong = {-1, 7, LOW, HIGH};
        for (int what : wrong) {
            due("what " + what, NONE - 1, x.who(0, what));
        }
        due("the next one", NONE - 1, porch().who(3, 0));
        due("the last one", 0, porch().who(2, 0));
    }
}
