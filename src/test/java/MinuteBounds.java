/** Of minutes, of what is done by hand, and of the book (Terms 3; promises 7 and 14). */
final class MinuteBounds extends Bounds {
    private static final int SAT_DOWN = 0;
    private static final int NO_SEAT = 1;
    private static final int ROSE = 2;
    private static final int WENT = 3;
    private static final int CAME = 4;
    private static final int STILLED = 5;

    MinuteBounds(Check check, Sentences sentences) {
        super(check, sentences);
    }

    void all() {
        in("Terms");
        order();
        sit();
        rise();
        goAndCome();
        unable();
        house();
        cat();
        draughtAndHush();
        fade();
        forNone();
        byHand();
        book();
        in("Promise 7: minutes");
        minutes();
        in("Promise 14: book");
        bookLines();
    }

    private void order() {
        of("A MINUTE. (a) Line by line of CALLS for it:");
        RockingPorch x = porch();
        calls(x, "at 1 person 1 sit 0; at 0 person 2 sit 1; at 1 person 0 sit 0; at 999 person 0 sit 0; at 1 person 2 rise;");
        due("minute 0", 0, x.minutes(1));
        due("one line", 1, x.look(8));
        dueLine(x, 0, 0, SAT_DOWN, 2, 1);
        due("minute 1", 1, x.minutes(1));
        dueLine(x, 1, 1, SAT_DOWN, 1, 0);
        dueLine(x, 2, 1, NO_SEAT, 0, 0);
        dueLine(x, 3, 1, ROSE, 2, 0);
        for (int i = 0; i < 16; i++) {
            x.minutes(60);
        }
        x.minutes(37);
        due("minute 999 is next", 999, x.look(7));
        due("not yet", 4, x.look(8));
        due("minute 999", 1, x.minutes(1));
        dueLine(x, 4, 999, NO_SEAT, 0, 0);
        due("not again", 0, x.minutes(60));
    }

    private void sit() {
        of("sit: one who stands: on that CHAIR, if it is not TAKEN and still: TAKEN by him, he sits, SAT one more; else he finds no seat;");
        RockingPorch x = rocking(30);
        calls(x, "at 0 person 1 sit 1; at 0 person 2 sit 1; at 0 person 2 sit 0; at 1 person 2 sit 0;");
        due("two find none", 2, x.minutes(1));
        due("taken by 1", 1, x.of(1, 3));
        due("he sits", 2, x.who(1, 1));
        due("there", 1, x.who(1, 4));
        due("sat", 1, x.who(1, 3));
        due("who finds none stands", 1, x.who(2, 1));
        due("has no chair", NONE, x.who(2, 4));
        due("has not sat", 0, x.who(2, 3));
        dueLine(x, 3, 0, NO_SEAT, 2, 1);
        dueLine(x, 4, 0, NO_SEAT, 2, 0);
        x.set(2, 0, 1);
        due("as far as 1 it rocks", 1, x.minutes(1));
        RockingPorch y = rocking(1);
        calls(y, "at 1 person 0 sit 0;");
        due("still by then", 0, y.minutes(2));
        due("he sits again", 2, y.who(0, 3));
    }

    private void rise() {
        of("rise: one who sits stands, his CHAIR is not TAKEN, swings is asked (of him; swing 0, he is here): SWING is that, and it is FOR him, if that is above 0 (a line either way);");
        RockingPorch x = porch();
        x.act(0, 0, 0);
        x.act(0, 1, 1);
        law(x, "swings 10*here + run when swing=0 and dear=3; fades 0;");
        calls(x, "at 0 person 0 rise; at 1 person 1 rise; at 2 person 1 sit 1; at 3 person 1 rise; at 3 person 2 sit 1;");
        x.minutes(1);
        due("stands", 1, x.who(0, 1));
        due("not taken", NONE, x.of(0, 3));
        due("swing 0, three here", 34, x.of(0, 1));
        due("for him", 0, x.of(0, 2));
        dueLine(x, 2, 0, ROSE, 0, 34);
        law(x, "swings 1 when dear=1; swings 99; fades 0;");
        x.minutes(1);
        due("1 is above 0", 1, x.of(1, 1));
        due("for 1", 1, x.of(1, 2));
        dueLine(x, 3, 1, ROSE, 1, 1);
        x.set(2, 1, 0);
        law(x, "swings 0-1; fades 0;");
        x.minutes(1);
        due("a seat is found", 0, x.minutes(1));
        dueLine(x, 5, 3, ROSE, 1, 0);
        dueLine(x, 6, 3, SAT_DOWN, 2, 1);
        due("it does not rock", 0, x.of(1, 1));
        due("for none", NONE, x.of(1, 2));
    }

    private void goAndCome() {
        of("go: one who sits rises first (all that, its line, too), then he is away;");
        RockingPorch x = porch();
        x.act(0, 0, 0);
        law(x, "swings 20 + here; fades 0;");
        calls(x, "at 0 person 0 go; at 0 person 1 go; at 1 person 1 come;");
        x.minutes(1);
        dueLine(x, 1, 0, ROSE, 0, 23);
        dueLine(x, 2, 0, WENT, 0, 2);
        dueLine(x, 3, 0, WENT, 1, 1);
        due("away", 0, x.who(0, 1));
        due("no chair", NONE, x.who(0, 4));
        due("his chair is not taken", NONE, x.of(0, 3));
        due("it rocks for him", 0, x.of(0, 2));
        due("so far", 23, x.of(0, 1));
        due("both away", 3, x.look(4));
        of("come: one who is away stands.");
        x.minutes(1);
        due("stands", 1, x.who(1, 1));
        due("one away", 1, x.look(4));
        dueLine(x, 4, 1, CAME, 1, 2);
    }

    private void unable() {
        of("(Who is not as it needs: nothing, no line.)");
        RockingPorch x = porch();
        x.act(0, 0, 0);
        calls(x, "at 0 person 2 go;");
        x.minutes(1);
        due("three lines", 2, x.look(8));
        String[] none = {"person 0 sit 1", "person 0 sit 0", "person 2 sit 1", "person 1 rise", "person 2 rise", "person 2 go", "person 0 come",
            "person 1 come"};
        for (String call : none) {
            calls(x, "at " + x.look(7) + " " + call + ";");
            due("no seat is asked for: " + call, 0, x.minutes(1));
            due("no line: " + call, 2, x.look(8));
            due("sits: " + call, 2, x.who(0, 1));
            due("on 0: " + call, 0, x.who(0, 4));
            due("sat once: " + call, 1, x.who(0, 3));
            due("stands: " + call, 1, x.who(1, 1));
            due("away: " + call, 0, x.who(2, 1));
            due("free: " + call, 2, x.look(3));
        }
    }

    private void house() {
        of("(b) Line by line of HOUSE for it:");
        RockingPorch x = rocking(40);
        law(x, "fades draught; jumps 1000 when swing=10; jumps 0;");
        house(x, "at 0 hush; at 1 draught 9; at 0 draught 3; at 0 hush; at 0 cat 0; at 999 draught 1; at 0 draught 5;");
        calls(x, "at 0 person 1 sit 0; at 0 person 2 sit 1; at 0 person 2 rise;");
        due("behind the calls", 1, x.minutes(1));
        dueLine(x, 2, 0, NO_SEAT, 1, 0);
        dueLine(x, 5, 0, STILLED, 0, 10);
        due("the last of the draughts", 5, x.look(5));
        due("not missed, as it was stilled before", 0, x.who(0, 2));
        x.minutes(1);
        due("minute 1", 9, x.look(5));
        RockingPorch y = rocking(40);
        law(y, "fades draught;");
        house(y, "at 0 draught 9;");
        y.minutes(1);
        due("ahead of what fades", 31, y.of(0, 1));
        for (int i = 0; i < 16; i++) {
            y.minutes(60);
        }
        y.minutes(38);
        house(y, "at 999 draught 1; at 998 draught 2; at 0 draught 3;");
        y.minutes(1);
        due("minute 999", 1, y.look(5));
    }

    private void cat() {
        of("cat: a CHAIR that rocks (else nothing): jumps is asked, is it above 0, a DRAW of 1000: below it it is stilled: SWING 0, FOR NONE, STILLED one more (a line then alone);");
        RockingPorch x = rocking(30);
        x.act(0, 2, 1);
        law(x, "jumps 1000; fades 0;");
        house(x, "at 0 cat 1; at 1 cat 0; at 1 cat 0;");
        x.minutes(1);
        due("a taken one: no draw", 0, x.look(9));
        due("no line", 3, x.look(8));
        due("stilled none", 0, x.look(6));
        x.minutes(1);
        due("one draw", 1013904223, x.look(9));
        due("swing 0", 0, x.of(0, 1));
        due("for none", NONE, x.of(0, 2));
        due("stilled one", 1, x.look(6));
        dueLine(x, 3, 1, STILLED, 0, 30);
        due("one line", 4, x.look(8));
        int[] jumps = {0, 1, 563, 564, 1000};
        for (int likely : jumps) {
            RockingPorch y = rocking(30);
            law(y, "jumps " + likely + "; fades 0;");
            house(y, "at 0 cat 0;");
            y.minutes(1);
            boolean does = likely > 563;
            due("draws 563, jumps " + likely, does ? 0 : 30, y.of(0, 1));
            due("for, jumps " + likely, does ? NONE : 0, y.of(0, 2));
            due("stilled, jumps " + likely, does, y.look(6) == 1);
            due("lines, jumps " + likely, does ? 3 : 2, y.look(8));
            due("draws, jumps " + likely, likely == 0 ? 0 : 1013904223, y.look(9));
        }
        RockingPorch z = rocking(50);
        law(z, "jumps 563+missed+dear-3 when swing=50; fades 0;");
        house(z, "at 0 cat 0; at 1 cat 0;");
        z.minutes(1);
        due("asked before one is missed", 50, z.of(0, 1));
        z.state(0);
        z.minutes(1);
        due("and with that behind it", 0, z.of(0, 1));
    }

    private void draughtAndHush() {
        of("draught: it is N;");
        for (int n = 0; n <= 9; n++) {
            RockingPorch x = porch();
            x.set(3, 0, 5);
            house(x, "at 0 draught " + n + ";");
            x.minutes(1);
            due("draught " + n, n, x.look(5));
        }
        of("hush: SWING of each CHAIR by 2 (downwards).");
        RockingPorch x = porch("444", "999");
        law(x, "fades 0;");
        for (int c = 0; c < 3; c++) {
            x.act(0, c, c);
            x.act(1, c, 0);
        }
        x.set(2, 0, 99);
        x.set(2, 1, 2);
        x.set(2, 2, 1);
        house(x, "at 0 hush;");
        x.minutes(1);
        due("99", 49, x.of(0, 1));
        due("2", 1, x.of(1, 1));
        due("1", 0, x.of(2, 1));
        due("for him still", 0, x.of(0, 2));
        due("for none", NONE, x.of(2, 2));
        due("not missed", 0, x.who(2, 2));
        due("it is no stilling", 0, x.look(6));
        due("no line", 6, x.look(8));
        due("no draw", 0, x.look(9));
        RockingPorch y = porch();
        y.act(0, 0, 0);
        house(y, "at 0 hush;");
        y.minutes(1);
        due("a taken one stays taken", 0, y.of(0, 3));
    }

    private void fade() {
        of("(c) CHAIR by CHAIR that rocks: MISSED of whom it is FOR (here or away) one more, then, with that, fades is asked, SWING so much less (0 at least).");
        RockingPorch x = porch("4444", "999");
        for (int c = 0; c < 3; c++) {
            x.act(0, 0, c);
            x.act(1, 0, 0);
            x.set(2, c, 50);
        }
        law(x, "fades missed;");
        x.minutes(1);
        due("the first with 1", 49, x.of(0, 1));
        due("the second with 2", 48, x.of(1, 1));
        due("the third with 3", 47, x.of(2, 1));
        due("missed by each", 3, x.who(0, 2));
        due("nobody else", 0, x.who(1, 2) + x.who(2, 2));
        calls(x, "at 1 person 0 go;");
        x.minutes(1);
        due("away", 0, x.who(0, 1));
        due("missed, away or not", 6, x.who(0, 2));
        int[][] fades = {{7, 7, 0}, {7, 8, 0}, {7, 6, 1}, {1, 20, 0}, {1, 1, 0}, {99, 20, 79}, {99, 0, 99}};
        for (int[] f : fades) {
            RockingPorch y = rocking(f[0]);
            law(y, "fades " + f[1] + ";");
            y.minutes(1);
            due(f[0] + " less " + f[1], f[2], y.of(0, 1));
            due("missed at " + f[0], 1, y.who(0, 2));
            due("for at " + f[0], f[2] == 0 ? NONE : 0, y.of(0, 2));
            y.minutes(1);
            due("missed then at " + f[0], f[2] == 0 ? 1 : 2, y.who(0, 2));
        }
        of("MINUTE is one more.");
        RockingPorch z = rocking(50);
        law(z, "fades 20 when minute=0; fades 1 when minute=1; fades 5;");
        z.minutes(1);
        due("minute 1", 1, z.look(7));
        due("asked in minute 0", 30, z.of(0, 1));
        z.minutes(1);
        due("asked in minute 1", 29, z.of(0, 1));
        z.minutes(60);
        due("minute 62", 62, z.look(7));
    }

    private void forNone() {
        of("(Whenever SWING is 0 FOR is NONE.)");
        for (int way = 0; way < 7; way++) {
            RockingPorch x = rocking(1);
            due("before way " + way, 0, x.of(0, 2));
            still(x, way);
            due("swing by way " + way, 0, x.of(0, 1));
            due("for by way " + way, NONE, x.of(0, 2));
            due("none for him by way " + way, 0, x.who(0, 5));
            due("rocks by way " + way, 0, x.look(2));
            due("free by way " + way, 3, x.look(3));
        }
    }

    private static void still(RockingPorch x, int way) {
        switch (way) {
            case 0:
                x.set(2, 0, 0);
                break;
            case 1:
                law(x, "jumps 1000;");
                x.act(2, 0, 0);
                break;
            case 2:
                x.act(3, 0, 0);
                break;
            case 3:
                law(x, "fades 1;");
                x.minutes(1);
                break;
            case 4:
                law(x, "fades 0;");
                house(x, "at 0 hush;");
                x.minutes(1);
                break;
            case 5:
                law(x, "jumps 1000;");
                house(x, "at 0 cat 0;");
                x.minutes(1);
                break;
            default:
                x.set(2, 0, 0);
                law(x, "swings 0;");
                x.act(0, 1, 0);
                x.act(1, 1, 0);
                break;
        }
    }

    private void byHand() {
        of("By hand: to SIT, to RISE, to let the CAT at a CHAIR that rocks, to STILL it by a hand (SWING 0; not STILLED, no line), as in (a), (b).");
        RockingPorch x = porch();
        x.minutes(2);
        x.act(0, 0, 0);
        dueLine(x, 0, 2, SAT_DOWN, 0, 0);
        due("sat", 1, x.who(0, 3));
        due("taken", 0, x.of(0, 3));
        x.act(1, 0, 0);
        dueLine(x, 1, 2, ROSE, 0, 30);
        due("rocks", 30, x.of(0, 1));
        due("for him", 0, x.of(0, 2));
        x.act(0, 2, 1);
        x.act(1, 2, 0);
        dueLine(x, 3, 2, ROSE, 2, 0);
        due("does not rock", 0, x.of(1, 1));
        x.act(3, 0, 0);
        due("still", 0, x.of(0, 1));
        due("not stilled", 0, x.look(6));
        due("no line", 4, x.look(8));
        due("no draw", 0, x.look(9));
        due("minute 2 still", 2, x.look(7));
        due("nobody missed", 0, x.who(0, 2));
        x.act(0, 0, 0);
        x.act(1, 0, 0);
        law(x, "jumps 563;");
        x.act(2, 0, 0);
        due("563 is not below 563", 30, x.of(0, 1));
        due("a draw", 1013904223, x.look(9));
        due("no line of that", 6, x.look(8));
        x.state(0);
        law(x, "jumps 564;");
        x.act(2, 0, 0);
        dueLine(x, 6, 2, STILLED, 0, 30);
        due("stilled", 1, x.look(6));
        RockingPorch y = rocking(30);
        law(y, "jumps 0;");
        y.act(2, 0, 0);
        due("without a draw", 0, y.look(9));
    }

    private void book() {
        of("THE BOOK (150 lines; no more then): MINUTE, what (0 sat down, 1 no seat, 2 rose, 3 went, 4 came, 5 stilled by the cat), who (5: the CHAIR; else the PERSON), how much (0, 1: the CHAIR; 2: SWING then; 3, 4: how many are here then, without him, with him; 5: SWING it had).");
        RockingPorch x = porch("4449", "3210");
        law(x, "fades 0; jumps 1000; swings 77;");
        calls(x, "at 3 person 2 sit 3; at 3 person 1 sit 3; at 3 person 2 rise; at 3 person 0 go; at 3 person 1 go; at 3 person 0 come;");
        house(x, "at 3 cat 3;");
        x.minutes(4);
        dueLine(x, 0, 3, SAT_DOWN, 2, 3);
        dueLine(x, 1, 3, NO_SEAT, 1, 3);
        dueLine(x, 2, 3, ROSE, 2, 77);
        dueLine(x, 3, 3, WENT, 0, 3);
        dueLine(x, 4, 3, WENT, 1, 2);
        dueLine(x, 5, 3, CAME, 0, 3);
        dueLine(x, 6, 3, STILLED, 3, 77);
        due("seven lines", 7, x.look(8));
        RockingPorch y = porch();
        law(y, "swings 0;");
        fill(y, 149);
        due("149 lines", 149, y.look(8));
        calls(y, "at 0 person 1 go; at 0 person 2 go; at 1 person 2 come; at 1 person 0 rise; at 1 person 0 sit 1;");
        y.minutes(1);
        due("150 lines", 150, y.look(8));
        dueLine(y, 149, 0, WENT, 1, 2);
        due("what is not written is done", 6, y.look(4));
        y.minutes(1);
        due("150 lines still", 150, y.look(8));
        dueLine(y, 149, 0, WENT, 1, 2);
        dueLine(y, 0, 0, SAT_DOWN, 0, 0);
        due("line 150", NONE, y.book(150, 0));
        due("came", 1, y.who(2, 1));
        due("sits", 1, y.who(0, 4));
    }

    /** So many lines, an odd number: at the end person 0 sits on chair 0. */
    private static void fill(RockingPorch x, int lines) {
        for (int i = 0; i < lines; i++) {
            x.act(i % 2, 0, 0);
        }
    }

    private void minutes() {
        of("MINUTES go by (1 .. 60): how often one found no seat.");
        RockingPorch x = rocking(99);
        law(x, "fades 0;");
        due("one", 0, x.minutes(1));
        due("minute 1", 1, x.look(7));
        due("sixty", 0, x.minutes(60));
        due("minute 61", 61, x.look(7));
        calls(x, "at 61 person 1 sit 0; at 61 person 1 sit 0; at 62 person 1 sit 0; at 119 person 2 sit 0; at 120 person 2 sit 0; at 121 person 2 sit 0;");
        due("five in sixty", 5, x.minutes(60));
        due("one more", 1, x.minutes(2));
        due("none", 0, x.minutes(60));
        of("NONE, and nothing is done, if one can't be, or MINUTE would be above 9999.");
        RockingPorch y = rocking(99);
        law(y, "fades 1;");
        String before = seen(y);
        int[] wrong = {0, -1, 61, 62, LOW, HIGH};
        for (int n : wrong) {
            due("minutes " + n, NONE, y.minutes(n));
        }
        dueSame("none of them", before, y);
        for (int i = 0; i < 165; i++) {
            y.minutes(60);
        }
        y.minutes(59);
        due("minute 9959", 9959, y.look(7));
        y.act(0, 0, 0);
        y.act(1, 0, 0);
        due("to 10019", NONE, y.minutes(60));
        due("to 10000", NONE, y.minutes(41));
        due("nothing is done", 9959, y.look(7));
        due("nothing faded", 30, y.of(0, 1));
        due("to 9999", 0, y.minutes(40));
        due("minute 9999", 9999, y.look(7));
        due("to 10000 by one", NONE, y.minutes(1));
        due("minute 9999 still", 9999, y.look(7));
    }

    private void bookLines() {
        of("Of line i of THE BOOK what 0 MINUTE, 1 what, 2 who, 3 how much.");
        RockingPorch x = porch();
        x.minutes(5);
        x.act(0, 2, 1);
        x.act(0, 0, 0);
        x.act(1, 0, 0);
        dueLine(x, 0, 5, SAT_DOWN, 2, 1);
        dueLine(x, 1, 5, SAT_DOWN, 0, 0);
        dueLine(x, 2, 5, ROSE, 0, 30);
        of("NONE if there is none such, or another what.");
        int[] none = {3, 4, 149, 150, -1, LOW, HIGH};
        for (int i : none) {
            for (int what = 0; what <= 3; what++) {
                due("line " + i, NONE, x.book(i, what));
            }
        }
        int[] wrong = {4, 5, -1, LOW, HIGH};
        for (int what : wrong) {
            due("what " + what, NONE, x.book(0, what));
        }
        x.undo();
        due("a line undone", NONE, x.book(2, 1));
        due("an empty book", NONE, porch().book(0, 0));
    }
}
