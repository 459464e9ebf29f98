import java.util.ArrayList;
import java.util.List;
import java.util.function.Consumer;

/** Of what goes back, and of what is seen (Terms: UNDO, THE IMAGE; promises 35 to 37). */
final class BackBounds extends Bounds {
    private static final int NO_LOOK = -100000;

    BackBounds(Check check, Sentences sentences) {
        super(check, sentences);
    }

    void all() {
        in("Terms");
        goesBack();
        bookGoesBack();
        sixAreKept();
        forgets();
        doNot();
        image();
        asTaken();
        moreThanOnce();
        constants();
        in("Promise 35: undo");
        undo();
        in("Promise 36: image");
        images();
        in("Promise 37: look");
        looks();
        otherLooks();
        stateSeen();
    }

    /** Chair 0 rocks for person 0, person 1 sits on chair 1, chair 2 is free; the next draw is 563. */
    private static RockingPorch busy() {
        RockingPorch x = porch("494", "310");
        x.act(0, 0, 0);
        x.act(1, 0, 0);
        x.act(0, 1, 1);
        law(x, "fades 3; jumps 564 when swing > 20; jumps 563;");
        calls(x, "at 0 person 2 sit 0; at 0 person 1 go; at 0 person 0 sit 2;");
        house(x, "at 0 draught 7; at 0 cat 0; at 1 hush;");
        kin(x, "person 2 minds 0;");
        return x;
    }

    /** All that is seen but how much can be undone. */
    private static String was(RockingPorch x) {
        return seen(x).replaceFirst("^((\\S+ ){14})\\S+ ", "$1");
    }

    /** What changes with each minute and each deed by hand, in few calls. */
    private static String brief(RockingPorch x) {
        StringBuilder all = new StringBuilder();
        for (int what = 2; what <= 9; what++) {
            all.append(x.look(what)).append(' ');
        }
        return all.append(x.of(0, 1)).append(' ').append(x.who(0, 2)).toString();
    }

    private void dueBack(String what, Consumer<RockingPorch> deed) {
        RockingPorch x = busy();
        String before = was(x);
        int can = x.look(14);
        deed.accept(x);
        due(what + ", done", false, before.equals(was(x)));
        due(what + ", can be undone", can + 1, x.look(14));
        due(what + ", undone", true, x.undo());
        due(what + ", is as it was", true, before.equals(was(x)));
        due(what + ", is undone once", can, x.look(14));
    }

    private void goesBack() {
        of("UNDO: the latest MINUTE, SITTING, RISING, CAT, STILLING by hand not undone yet goes back (STATE, THE BOOK, too):");
        dueBack("a minute", x -> x.minutes(1));
        dueBack("a sitting", x -> x.act(0, 2, 2));
        dueBack("a rising", x -> x.act(1, 1, 0));
        dueBack("a cat that jumps", x -> x.act(2, 0, 0));
        dueBack("a stilling", x -> x.act(3, 0, 0));
        RockingPorch y = rocking(10);
        law(y, "jumps 563;");
        y.act(2, 0, 0);
        due("a cat that does not jump has drawn", 1013904223, y.look(9));
        due("it goes back", true, y.undo());
        due("its draw, too", 0, y.look(9));
        RockingPorch z = busy();
        List<String> before = new ArrayList<>();
        for (int i = 0; i < 6; i++) {
            before.add(brief(z));
            deed(z, i);
        }
        for (int i = 5; i >= 0; i--) {
            due("deed " + i + " changed it", false, before.get(i).equals(brief(z)));
            due("the latest first: " + i, true, z.undo());
            due("as it was before " + i, true, before.get(i).equals(brief(z)));
        }
    }

    private static void deed(RockingPorch x, int i) {
        switch (i) {
            case 0:
                x.act(0, 0, 2);
                break;
            case 1:
                x.act(1, 0, 0);
                break;
            case 2:
                x.act(2, 0, 0);
                break;
            case 3:
                x.act(3, 2, 0);
                break;
            default:
                x.minutes(1);
                break;
        }
    }

    private void bookGoesBack() {
        RockingPorch x = porch();
        law(x, "swings 0;");
        for (int i = 0; i < 149; i++) {
            x.act(i % 2, 0, 0);
        }
        x.act(0, 2, 1);
        x.act(1, 0, 0);
        due("a full book", 150, x.look(8));
        due("what was not written goes back", true, x.undo());
        due("sits again", 2, x.who(0, 1));
        due("the book is full still", 150, x.look(8));
        dueLine(x, 149, 0, 0, 2, 1);
        due("the last line goes back", true, x.undo());
        due("149 lines", 149, x.look(8));
        due("no line there", NONE, x.book(149, 0));
        x.act(1, 0, 0);
        dueLine(x, 149, 0, 2, 0, 0);
    }

    private void sixAreKept() {
        of("6 are kept;");
        RockingPorch x = porch();
        law(x, "swings 0;");
        for (int i = 1; i <= 8; i++) {
            x.act(1 - i % 2, 0, 0);
            due("kept of " + i, Math.min(i, 6), x.look(14));
        }
        for (int i = 5; i >= 0; i--) {
            due("undone", true, x.undo());
            due("left", i, x.look(14));
        }
        due("the seventh", false, x.undo());
        due("two lines are left", 2, x.look(8));
        RockingPorch y = rocking(99);
        y.minutes(60);
        due("of sixty minutes", 6, y.look(14));
        for (int i = 59; i >= 54; i--) {
            due("a minute", true, y.undo());
            due("back at", i, y.look(7));
        }
        due("none beyond", false, y.undo());
        due("still at 54", 54, y.look(7));
        y.minutes(5);
        y.undo();
        y.undo();
        y.minutes(3);
        due("three and three", 6, y.look(14));
        for (int i = 0; i < 6; i++) {
            y.undo();
        }
        due("all of them", 54, y.look(7));
    }

    private void dueForgets(String what, Consumer<RockingPorch> deed) {
        RockingPorch x = busy();
        x.image(true);
        x.act(0, 2, 2);
        x.minutes(1);
        due("two before " + what, 2, x.look(14));
        deed.accept(x);
        due("none behind " + what, 0, x.look(14));
        String before = brief(x);
        due("undo behind " + what, false, x.undo());
        due("nothing goes back behind " + what, true, before.equals(brief(x)));
        x.act(1, 2, 0);
        x.minutes(1);
        due("kept again behind " + what, true, x.look(14) > 0);
    }

    private void forgets() {
        of("whatever else is told but THE LAW, KIN and what is told for thought (TICKS, SEATED, LINE, RUG, TRUNKS, STEPS, SLIDE)");
        dueForgets("state", x -> x.state(5));
        dueForgets("state as it is", x -> x.state(x.look(9)));
        dueForgets("a chair", x -> x.chair(0));
        dueForgets("a person", x -> x.person(0));
        dueForgets("run", x -> x.set(0, 0, 9));
        dueForgets("run as it is", x -> x.set(0, 0, 4));
        dueForgets("dear", x -> x.set(1, 2, 9));
        dueForgets("swing", x -> x.set(2, 1, 9));
        dueForgets("draught", x -> x.set(3, 0, 9));
        dueForgets("calls", x -> calls(x, "at 9 person 0 rise;"));
        dueForgets("empty calls", x -> calls(x, ""));
        dueForgets("a house", x -> house(x, "at 9 hush;"));
        dueForgets("an empty house", x -> house(x, ""));
        dueForgets("the image", x -> x.image(false));
        dueKeeps("the law", x -> law(x, "fades 7;"));
        dueKeeps("an empty law", x -> law(x, ""));
        dueKeeps("kin", x -> kin(x, "person 0 minds 1;"));
        dueKeeps("empty kin", x -> kin(x, ""));
        dueKeeps("ticks", x -> x.tick(1, 2));
        dueKeeps("no ticks", x -> x.tick(1, NONE));
        dueKeeps("couples", x -> x.apart(1, 2));
        dueKeeps("no couples", x -> x.apart(NONE, 2));
        dueKeeps("points", x -> x.point(1, 2));
        dueKeeps("no points", x -> x.point(NONE, 2));
        dueKeeps("a full place", x -> x.full(1, 2, true));
        dueKeeps("a free place", x -> x.full(1, 2, false));
        dueKeeps("weights", x -> x.weight(1));
        dueKeeps("no weights", x -> x.weight(NONE));
        dueKeeps("steps", x -> x.step(1));
        dueKeeps("no steps", x -> x.step(NONE));
        dueKeeps("coins", x -> x.coin(1));
        dueKeeps("no coins", x -> x.coin(NONE));
        dueStays();
    }

    /** What forgets nothing is not undone either. */
    private void dueStays() {
        RockingPorch x = busy();
        x.act(0, 2, 2);
        law(x, "fades 11;");
        kin(x, "person 1 minds 0; person 2 minds 0;");
        think(x);
        String before = told(x);
        due("undone", true, x.undo());
        due("the sitting", 1, x.who(2, 1));
        due("not the law", 11, x.of(0, 4));
        due("not kin", 6, x.who(0, 6));
        due("nor what is told for thought", true, before.equals(told(x)));
    }

    private void dueKeeps(String what, Consumer<RockingPorch> deed) {
        RockingPorch x = busy();
        String before = brief(x);
        x.act(0, 2, 2);
        int can = x.look(14);
        deed.accept(x);
        due("as many behind " + what, can, x.look(14));
        due("undo behind " + what, true, x.undo());
        due("as it was behind " + what, true, before.equals(brief(x)));
    }

    private void doNot() {
        of("(feed(), end(), what is refused, a text with a FAULT, the taking of THE IMAGE do not) forgets them.");
        dueKeeps("a feed", x -> x.feed(0, 0, 0, 0, 0));
        dueKeeps("an end", x -> x.end(0));
        dueKeeps("a refused end", x -> x.end(1));
        dueKeeps("the taking of the image", x -> x.image(true));
        dueKeeps("no image", x -> x.image(false));
        dueKeeps("no chair", x -> x.chair(10));
        dueKeeps("no person", x -> x.person(-1));
        dueKeeps("no run", x -> x.set(0, 0, 10));
        dueKeeps("no dear", x -> x.set(1, 3, 1));
        dueKeeps("no swing", x -> x.set(2, 2, 1));
        dueKeeps("no draught", x -> x.set(3, 0, -1));
        dueKeeps("no such set", x -> x.set(4, 0, 0));
        dueKeeps("no seat", x -> x.act(0, 0, 1));
        dueKeeps("no rising", x -> x.act(1, 0, 0));
        dueKeeps("no cat", x -> x.act(2, 1, 0));
        dueKeeps("no hand", x -> x.act(3, 1, 0));
        dueKeeps("no such act", x -> x.act(4, 0, 0));
        dueKeeps("no minutes", x -> x.minutes(0));
        dueKeeps("too many minutes", x -> x.minutes(61));
        dueKeeps("no text", x -> x.text(4));
        String[] faults = {"fades", "at 0 person 9 go;", "at 0 cat 9;", "person 0 minds 0;"};
        for (int k = 0; k <= 3; k++) {
            int text = k;
            dueKeeps("a fault in text " + k, x -> Check.tell(x, text, faults[text]));
        }
        dueKeeps("no tick", x -> x.tick(1, 1));
        dueKeeps("thought", BackBounds::thoughts);
        dueKeeps("a look", BackBounds::seen);
        RockingPorch most = porch("4444444444", "44444444444444");
        most.act(0, 13, 9);
        due("an eleventh chair", NONE, most.chair(0));
        due("a fifteenth person", NONE, most.person(0));
        due("kept", 1, most.look(14));
        RockingPorch last = porch();
        for (int i = 0; i < 166; i++) {
            last.minutes(60);
        }
        last.minutes(39);
        due("beyond 9999", NONE, last.minutes(1));
        due("kept", 6, last.look(14));
    }

    /** Tells something for each of the thoughts. */
    static void think(RockingPorch x) {
        x.tick(3, 4);
        x.tick(5, 6);
        x.apart(0, 1);
        x.apart(2, 3);
        x.point(0, 0);
        x.point(3, 4);
        x.point(6, 8);
        x.full(1, 1, true);
        x.full(4, 3, true);
        x.weight(30);
        x.weight(40);
        x.weight(20);
        x.step(0);
        x.step(7);
        x.step(14);
        x.coin(5);
        x.coin(2);
    }

    /** As much as think() tells, but nothing of that. */
    private static void thinkOtherwise(RockingPorch x) {
        x.tick(1, 5);
        x.tick(1, 7);
        x.apart(3, 4);
        x.apart(0, 5);
        x.point(20, 0);
        x.point(19, 1);
        x.point(9, 9);
        x.full(0, 0, true);
        x.full(5, 3, true);
        x.weight(10);
        x.weight(11);
        x.weight(12);
        x.step(60);
        x.step(59);
        x.step(30);
        x.coin(40);
        x.coin(39);
    }

    private static void thinkOfNothing(RockingPorch x) {
        x.tick(0, NONE);
        x.apart(NONE, 0);
        x.point(NONE, 0);
        x.full(1, 1, false);
        x.full(4, 3, false);
        x.weight(NONE);
        x.step(NONE);
        x.coin(NONE);
    }

    /** What is thought of what was told for it. */
    private static String told(RockingPorch x) {
        StringBuilder all = new StringBuilder();
        for (int what = 0; what <= 1; what++) {
            all.append(x.ticks(what)).append(' ').append(x.seated(5, what)).append(' ').append(x.rug(what)).append(' ');
            all.append(x.trunks(50, what)).append(' ').append(x.steps(what)).append(' ');
        }
        for (int what = 0; what <= 2; what++) {
            all.append(x.line(what)).append(' ');
        }
        return all.append(x.slide()).toString();
    }

    /** All that is thought. */
    private static String thoughts(RockingPorch x) {
        StringBuilder all = new StringBuilder(told(x));
        for (int what = 0; what <= 3; what++) {
            all.append(' ').append(x.goes(5, what));
        }
        return all.append(' ').append(x.seat()).toString();
    }

    private void image() {
        of("THE IMAGE: all that is and was told but the TAPE, fault() and what can be undone (nothing then),");
        RockingPorch x = busy();
        think(x);
        x.state(77);
        x.minutes(1);
        String is = was(x);
        String thought = thoughts(x);
        due("taken", true, x.image(true));
        x.chair(1);
        x.person(1);
        x.set(0, 0, 1);
        x.set(1, 0, 1);
        x.set(3, 0, 1);
        x.act(3, 0, 0);
        x.act(0, 0, 0);
        x.state(1);
        law(x, "");
        calls(x, "");
        house(x, "");
        kin(x, "");
        x.minutes(60);
        thinkOfNothing(x);
        thinkOtherwise(x);
        due("all is another", false, is.equals(was(x)));
        due("all is thought otherwise", false, thought.equals(thoughts(x)));
        due("gone back to", true, x.image(false));
        due("all is", true, is.equals(was(x)));
        due("all was told", true, thought.equals(thoughts(x)));
        tapeAndFault();
        undoneByImage();
    }

    private void tapeAndFault() {
        RockingPorch x = porch();
        Check.tape(x, "fades 7;#");
        x.image(true);
        x.end(8);
        x.image(false);
        due("the tape is not held", false, x.end(9));
        due("it is as it is", 1, x.text(0));
        due("it is empty", false, x.end(1));
        x.image(false);
        due("it is empty still", false, x.end(1));
        Check.tell(x, 0, "fades");
        x.image(true);
        Check.tell(x, 0, "fades 1/0;");
        x.image(false);
        due("a fault is not held", 2, x.fault(0));
        due("nor its place", 8, x.fault(1));
        Check.tell(x, 0, "fades 1;");
        x.image(false);
        due("no fault is none still", 0, x.fault(0));
        due("nor has it a place", NONE, x.fault(1));
        Check.tape(x, "fades 3;");
        x.image(false);
        due("what came on the tape stays", 1, x.text(0));
        due("and is read", 3, x.of(0, 4));
    }

    private void undoneByImage() {
        RockingPorch x = busy();
        x.minutes(3);
        x.image(true);
        due("what can be undone stays by the taking", 3, x.look(14));
        x.minutes(1);
        x.image(false);
        due("nothing by the going back", 0, x.look(14));
        due("nothing goes back", false, x.undo());
        due("minute 3", 3, x.look(7));
        x.minutes(1);
        due("from there on", 1, x.look(14));
        due("it goes back", true, x.undo());
        due("to the image", 3, x.look(7));
    }

    private void asTaken() {
        of("as it was when it was taken;");
        RockingPorch x = new RockingPorch();
        x.image(true);
        x.chair(0);
        x.person(0);
        x.act(0, 0, 0);
        law(x, "fades 1;");
        think(x);
        x.minutes(5);
        due("a new porch again", true, x.image(false));
        for (int what = 0; what <= 14; what++) {
            due("look " + what, 0, x.look(what));
        }
        due("no line", NONE, x.book(0, 0));
        due("as a new one thinks", true, thoughts(new RockingPorch()).equals(thoughts(x)));
        due("the first chair", 0, x.chair(6));
        due("its run", 6, x.of(0, 0));
        due("its swing", 0, x.of(0, 1));
        due("taken by none", NONE, x.of(0, 3));
        due("the first person", 0, x.person(7));
        due("has not sat", 0, x.who(0, 3));
        fullest();
        RockingPorch y = busy();
        y.image(true);
        y.undo();
        y.undo();
        y.minutes(1);
        y.image(false);
        due("three lines again", 3, y.look(8));
        dueLine(y, 1, 0, 2, 0, 30);
        dueLine(y, 2, 0, 0, 1, 1);
        due("and no more", NONE, y.book(3, 0));
    }

    private void fullest() {
        RockingPorch x = porch("0123456789", "01234567890123");
        law(x, "swings 0;" + "fades 1;".repeat(15));
        calls(x, "at 9 person 0 go;".repeat(16));
        house(x, "at 9 hush;".repeat(16));
        kin(x, "person 1 minds 2;".repeat(16));
        for (int i = 0; i < 149; i++) {
            x.act(i % 2, 13, 9);
        }
        x.act(0, 12, 8);
        for (int i = 0; i < 10; i++) {
            x.tick(i % 2, 2 + i % 2 * 9);
            x.apart(i % 6, 6);
            x.point(i, 0);
            x.weight(90 + i % 9);
            x.step(i);
            x.coin(i);
        }
        String thought = thoughts(x);
        x.image(true);
        x.act(1, 13, 0);
        law(x, "");
        calls(x, "");
        house(x, "");
        kin(x, "");
        thinkOfNothing(x);
        x.minutes(60);
        x.image(false);
        due("all are told", true, thought.equals(thoughts(x)));
        due("no fifth tick", NONE, x.tick(0, 1));
        due("no eleventh couple", NONE, x.apart(0, 1));
        due("no ninth point", NONE, x.point(20, 20));
        due("no tenth weight", NONE, x.weight(1));
        due("no eleventh step", NONE, x.step(60));
        due("no seventh coin", NONE, x.coin(40));
        due("no eleventh chair", NONE, x.chair(0));
        due("no fifteenth person", NONE, x.person(0));
        for (int k = 0; k <= 3; k++) {
            due("lines of text " + k, 16, x.look(10 + k));
        }
        due("150 lines", 150, x.look(8));
        dueLine(x, 0, 0, 0, 13, 9);
        dueLine(x, 149, 0, 0, 12, 8);
        due("the last sits", 9, x.who(13, 4));
    }

    private void moreThanOnce() {
        of("gone back to it may be more than once.");
        RockingPorch x = busy();
        think(x);
        String is = was(x);
        x.image(true);
        for (int i = 0; i < 3; i++) {
            x.set(0, 0, i);
            x.minutes(1 + i);
            x.tick(0, NONE);
            x.act(1, 1, 0);
            due("gone back to", true, x.image(false));
            due("the least", 11, x.ticks(0));
            due("all is", true, is.equals(was(x)));
        }
        due("at once again", true, x.image(false));
        x.minutes(9);
        due("another in its stead", true, x.image(true));
        x.minutes(9);
        due("gone back to", true, x.image(false));
        due("the latest taken", 9, x.look(7));
    }

    private void constants() {
        of("The constants: None.");
        due("NONE", -1, RockingPorch.NONE);
    }

    private void undo() {
        of("UNDO: true;");
        RockingPorch x = rocking(50);
        due("the rising's swing was told: nothing", false, x.undo());
        x.act(3, 0, 0);
        due("a stilling", true, x.undo());
        due("rocks again", 50, x.of(0, 1));
        due("for him again", 0, x.of(0, 2));
        of("false if there is nothing.");
        due("undone already", false, x.undo());
        due("rocks still", 50, x.of(0, 1));
        due("nothing was done", false, porch().undo());
        due("a new porch", false, new RockingPorch().undo());
        x.act(2, 9, 0);
        due("what was refused", false, x.undo());
    }

    private void images() {
        of("THE IMAGE is taken (true), or gone back to (false): true;");
        RockingPorch x = porch();
        due("taken", true, x.image(true));
        x.minutes(7);
        due("gone back to", true, x.image(false));
        due("minute 0", 0, x.look(7));
        x.minutes(5);
        due("taken anew", true, x.image(true));
        due("gone back to at once", true, x.image(false));
        due("minute 5", 5, x.look(7));
        of("false if there is none.");
        RockingPorch y = porch();
        y.minutes(7);
        due("none was taken", false, y.image(false));
        due("nothing is changed", 7, y.look(7));
        due("what can be undone stays", 6, y.look(14));
        due("nor of a new porch", false, new RockingPorch().image(false));
    }

    private void looks() {
        of("What 0 CHAIRS, 1 PERSONS, 2 the CHAIRS that rock (a set), 3 those free (a set), 4 who is away (a set), 5 DRAUGHT, 6 STILLED, 7 MINUTE, 8 lines of THE BOOK, 9 STATE, 10 lines of THE LAW, 11 of CALLS, 12 of HOUSE, 13 of KIN, 14 what can be undone.");
        RockingPorch x = porch("4444444444", "33333333333333");
        law(x, "fades 1; jumps 1000;");
        calls(x, "at 0 person 13 go; at 0 person 0 go; at 0 person 5 go;");
        house(x, "at 0 draught 8; at 0 cat 3; at 99 hush; at 99 hush;");
        kin(x, "person 0 minds 1; person 0 minds 2; person 0 minds 3; person 0 minds 4; person 0 minds 5;");
        int[] chairs = {9, 0, 3};
        for (int c : chairs) {
            x.act(0, c, c);
            x.act(1, c, 0);
        }
        x.act(0, 8, 8);
        x.minutes(1);
        int[] due = {10, 14, 1 | 1 << 9, 1023 & ~(1 | 1 << 9 | 1 << 8), 1 | 1 << 5 | 1 << 13, 8, 1, 1, 11, 1013904223, 2, 3, 4, 5, 6};
        for (int what = 0; what <= 14; what++) {
            due("what " + what, due[what], x.look(what));
        }
        RockingPorch least = new RockingPorch();
        for (int what = 0; what <= 14; what++) {
            due("of a new porch " + what, 0, least.look(what));
        }
    }

    private void otherLooks() {
        of("NONE - 99999 for another what.");
        RockingPorch x = porch();
        int[] wrong = {15, -1, 16, 100, LOW, HIGH};
        for (int what : wrong) {
            due("what " + what, NO_LOOK, x.look(what));
        }
    }

    private void stateSeen() {
        of("(STATE as it is.)");
        RockingPorch x = porch();
        int[] states = {NO_LOOK, -1, LOW, HIGH, 0, -2};
        for (int state : states) {
            x.state(state);
            due("state " + state, state, x.look(9));
        }
    }
}
