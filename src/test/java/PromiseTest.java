/** For each promise of the document what would fail if it were broken: plain inputs, edges, wrong inputs. */
public final class PromiseTest {
    private static final int NONE = RockingPorch.NONE;
    private static final int LOW = Integer.MIN_VALUE;
    private static final int HIGH = Integer.MAX_VALUE;
    private static final Check check = new Check();

    public static void main(String[] args) {
        promise1NewObject();
        promise2State();
        promise3Chair();
        promise4Person();
        promise5Set();
        promise6Act();
        promise6Cat();
        promise7Minutes();
        promise7Calls();
        promise7House();
        promise7Bounds();
        promise8And9Tape();
        promise10Law();
        promise10LawFaults();
        promise10LineFaults();
        promise10Limits();
        promise11Fault();
        promise12Of();
        promise13Who();
        promise14Book();
        promise15Goes();
        promise16Seat();
        promise17And18Ticks();
        promise19And20Seated();
        promise21And22Line();
        promise23And24Rug();
        promise25Stack();
        promise26And27Trunks();
        promise28And29Throws();
        promise30Hands();
        promise31And32Steps();
        promise33And34Slide();
        promise35Undo();
        promise35Forgetting();
        promise36Image();
        promise37Look();
        check.close("PromiseTest");
    }

    private static void due(String what, long want, long got) {
        check.due(what, want, got);
    }

    private static void due(String what, boolean want, boolean got) {
        check.due(what, want, got);
    }

    /** Two chairs (run 4, 9), three persons (dear 3, 1, 0). */
    private static RockingPorch porch() {
        RockingPorch x = new RockingPorch();
        x.chair(4);
        x.chair(9);
        x.person(3);
        x.person(1);
        x.person(0);
        return x;
    }

    /** Chair 0 rocks by 30 for person 0, who stands. */
    private static RockingPorch rocking() {
        RockingPorch x = porch();
        x.act(0, 0, 0);
        x.act(1, 0, 0);
        return x;
    }

    private static void promise1NewObject() {
        RockingPorch x = new RockingPorch();
        for (int what = 0; what <= 14; what++) {
            due("new look " + what, 0, x.look(what));
        }
        due("new fault 0", 0, x.fault(0));
        due("new fault 1", NONE, x.fault(1));
        due("new undo", false, x.undo());
        due("new image", false, x.image(false));
        due("new seat", NONE, x.seat());
        due("new feed", 20, x.feed(0, 0, 0, 0, 0));
        due("NONE", -1, NONE);
    }

    private static void promise2State() {
        RockingPorch x = new RockingPorch();
        due("state 7", 0, x.state(7));
        due("state low", 7, x.state(LOW));
        due("state high", LOW, x.state(HIGH));
        due("look state", HIGH, x.look(9));
    }

    private static void promise3Chair() {
        RockingPorch x = new RockingPorch();
        int[] wrong = {-1, 10, LOW, HIGH};
        for (int v : wrong) {
            due("chair " + v, NONE, x.chair(v));
        }
        for (int i = 0; i < 10; i++) {
            due("chair " + i, i, x.chair(9 - i));
        }
        due("chair 11th", NONE, x.chair(3));
        for (int i = 0; i < 10; i++) {
            due("run " + i, 9 - i, x.of(i, 0));
            due("swing " + i, 0, x.of(i, 1));
            due("for " + i, NONE, x.of(i, 2));
            due("taken " + i, NONE, x.of(i, 3));
        }
        due("chairs", 10, x.look(0));
        due("free", 1023, x.look(3));
    }

    private static void promise4Person() {
        RockingPorch x = new RockingPorch();
        int[] wrong = {-1, 10, LOW, HIGH};
        for (int v : wrong) {
            due("person " + v, NONE, x.person(v));
        }
        for (int i = 0; i < 14; i++) {
            due("person " + i, i, x.person(i % 10));
        }
        due("person 15th", NONE, x.person(3));
        for (int i = 0; i < 14; i++) {
            due("dear " + i, i % 10, x.who(i, 0));
            due("is " + i, 1, x.who(i, 1));
            due("missed " + i, 0, x.who(i, 2));
            due("sat " + i, 0, x.who(i, 3));
            due("his chair " + i, NONE, x.who(i, 4));
        }
        due("persons", 14, x.look(1));
    }

    private static void promise5Set() {
        RockingPorch x = rocking();
        due("set run", true, x.set(0, 1, 0));
        due("run", 0, x.of(1, 0));
        due("set run 9", true, x.set(0, 1, 9));
        due("set run 10", false, x.set(0, 1, 10));
        due("set run -1", false, x.set(0, 1, -1));
        due("set run of 2", false, x.set(0, 2, 1));
        due("set run of -1", false, x.set(0, -1, 1));
        due("run", 9, x.of(1, 0));
        due("set dear", true, x.set(1, 2, 9));
        due("dear", 9, x.who(2, 0));
        due("set dear 10", false, x.set(1, 2, 10));
        due("set dear -1", false, x.set(1, 2, -1));
        due("set dear of 3", false, x.set(1, 3, 1));
        due("set dear of low", false, x.set(1, LOW, 1));
        due("set swing", true, x.set(2, 0, 99));
        due("swing", 99, x.of(0, 1));
        due("for", 0, x.of(0, 2));
        due("set swing 100", false, x.set(2, 0, 100));
        due("set swing -1", false, x.set(2, 0, -1));
        due("set swing of a still one", false, x.set(2, 1, 5));
        due("set swing of 2", false, x.set(2, 2, 5));
        due("set swing 0", true, x.set(2, 0, 0));
        due("for none", NONE, x.of(0, 2));
        due("set swing then", false, x.set(2, 0, 1));
        due("set draught", true, x.set(3, HIGH, 9));
        due("draught", 9, x.look(5));
        due("set draught 10", false, x.set(3, 0, 10));
        due("set draught -1", false, x.set(3, 0, -1));
        due("set 4", false, x.set(4, 0, 0));
        due("set -1", false, x.set(-1, 0, 0));
    }

    private static void promise6Act() {
        RockingPorch x = porch();
        due("sit", true, x.act(0, 0, 0));
        due("is", 2, x.who(0, 1));
        due("sat", 1, x.who(0, 3));
        due("taken", 0, x.of(0, 3));
        due("sit again", false, x.act(0, 0, 1));
        due("sit on a taken one", false, x.act(0, 1, 0));
        due("no line by hand", 1, x.look(8));
        due("sit on 2", false, x.act(0, 1, 2));
        due("sit on -1", false, x.act(0, 1, -1));
        due("3 sits", false, x.act(0, 3, 1));
        due("still a taken one", false, x.act(3, 0, 0));
        due("cat at a taken one", false, x.act(2, 0, 0));
        due("rise", true, x.act(1, 0, HIGH));
        due("rise again", false, x.act(1, 0, 0));
        due("rise -1", false, x.act(1, -1, 0));
        due("rise 3", false, x.act(1, 3, 0));
        due("swing", 30, x.of(0, 1));
        due("for", 0, x.of(0, 2));
        due("free", 2, x.look(3));
        due("sit on a rocking one", false, x.act(0, 0, 0));
        due("still", true, x.act(3, 0, LOW));
        due("still then", 0, x.of(0, 1));
        due("for then", NONE, x.of(0, 2));
        due("stilled by hand", 0, x.look(6));
        due("lines", 2, x.look(8));
        due("still again", false, x.act(3, 0, 0));
        due("still 2", false, x.act(3, 2, 0));
        due("nobody dear", true, x.act(0, 2, 1));
        due("rises", true, x.act(1, 2, 0));
        due("no swing", 0, x.of(1, 1));
        due("for nobody", NONE, x.of(1, 2));
        due("a line either way", 2, x.book(3, 1));
        due("by how much", 0, x.book(3, 3));
        due("act 4", false, x.act(4, 0, 0));
        due("act -1", false, x.act(-1, 0, 0));
    }

    private static void promise6Cat() {
        RockingPorch x = rocking();
        Check.tell(x, 0, "jumps 564;");
        due("cat at a still one", false, x.act(2, 1, 0));
        due("cat at none", false, x.act(2, 2, 0));
        due("cat", true, x.act(2, 0, 0));
        due("its draw of 563", 0, x.of(0, 1));
        due("stilled", 1, x.look(6));
        due("state", 1013904223, x.look(9));
        due("line", 5, x.book(2, 1));
        due("the chair", 0, x.book(2, 2));
        due("its swing", 30, x.book(2, 3));
        x.undo();
        Check.tell(x, 0, "jumps 563;");
        due("cat 563", true, x.act(2, 0, 0));
        due("does not jump", 30, x.of(0, 1));
        due("not stilled", 0, x.look(6));
        due("no line", 2, x.look(8));
        due("drawn", 1013904223, x.look(9));
        due("undo it", true, x.undo());
        Check.tell(x, 0, "jumps 0;");
        due("cat 0", true, x.act(2, 0, 0));
        due("no draw", 0, x.look(9));
        due("can be undone", 3, x.look(14));
    }

    private static void promise7Minutes() {
        RockingPorch x = rocking();
        due("one minute", 0, x.minutes(1));
        due("swing", 24, x.of(0, 1));
        due("missed", 1, x.who(0, 2));
        due("minute", 1, x.look(7));
        due("four", 0, x.minutes(4));
        due("faded", 0, x.of(0, 1));
        due("missed then", 5, x.who(0, 2));
        due("for none", NONE, x.of(0, 2));
        due("on", 0, x.minutes(60));
        due("not missed more", 5, x.who(0, 2));
        Check.tell(x, 0, "fades missed when missed < 8; fades 20;");
        x.act(0, 0, 0);
        x.act(1, 0, 0);
        x.minutes(1);
        due("fades with that missed", 24, x.of(0, 1));
        x.minutes(1);
        due("fades 7", 17, x.of(0, 1));
        x.minutes(1);
        due("fades 20", 0, x.of(0, 1));
    }

    private static void promise7Calls() {
        RockingPorch x = porch();
        due("calls", 8, Check.tell(x, 1, "at 0 person 0 sit 0;at 0 person 1 sit 0;at 0 person 1 sit 0;at 0 person 0 sit 1;"
                + "at 1 person 0 go;at 1 person 1 rise;at 1 person 1 come;at 2 person 0 come;"));
        due("two found none", 2, x.minutes(1));
        due("lines", 3, x.look(8));
        due("no seat", 1, x.book(1, 1));
        due("who", 1, x.book(1, 2));
        due("where", 0, x.book(1, 3));
        due("minute", 0, x.minutes(1));
        due("rose first", 2, x.book(3, 1));
        due("by", 30, x.book(3, 3));
        due("then went", 3, x.book(4, 1));
        due("without him", 2, x.book(4, 3));
        due("no line for the others", 5, x.look(8));
        due("away", 1, x.look(4));
        due("is away", 0, x.who(0, 1));
        due("missed while away", 1, x.who(0, 2));
        x.minutes(1);
        due("came", 4, x.book(5, 1));
        due("with him", 3, x.book(5, 3));
        due("in minute", 2, x.book(5, 0));
    }

    private static void promise7House() {
        RockingPorch x = rocking();
        x.set(2, 0, 31);
        Check.tell(x, 0, "fades 0;jumps 600 when swing < 20;jumps 0;");
        due("house", 5, Check.tell(x, 2, "at 0 cat 0;at 0 hush;at 0 draught 7;at 0 cat 1;at 1 cat 0;"));
        x.minutes(1);
        due("halved", 15, x.of(0, 1));
        due("draught", 7, x.look(5));
        due("no draw", 0, x.look(9));
        x.minutes(1);
        due("stilled", 0, x.of(0, 1));
        due("by cat", 1, x.look(6));
        due("drawn once", 1013904223, x.look(9));
        x.minutes(1);
        due("nothing more", 1, x.look(6));
        RockingPorch y = rocking();
        y.set(2, 0, 1);
        Check.tell(y, 2, "at 0 hush;");
        y.minutes(1);
        due("hushed to rest", NONE, y.of(0, 2));
        due("not missed then", 0, y.who(0, 2));
    }

    private static void promise7Bounds() {
        RockingPorch x = new RockingPorch();
        int[] wrong = {0, -1, 61, LOW, HIGH};
        for (int n : wrong) {
            due("minutes " + n, NONE, x.minutes(n));
        }
        for (int i = 0; i < 166; i++) {
            x.minutes(60);
        }
        due("minute 9960", 9960, x.look(7));
        due("too many", NONE, x.minutes(40));
        due("stays", 9960, x.look(7));
        due("the last", 0, x.minutes(39));
        due("minute 9999", 9999, x.look(7));
        due("no more", NONE, x.minutes(1));
        due("in thought they go", 0, x.goes(60, 0));
    }

    private static void promise8And9Tape() {
        RockingPorch x = new RockingPorch();
        for (int i = 1; i <= 20; i++) {
            due("feed " + i, 20 * i, x.feed(-1, 2, 3, 4, 5));
        }
        due("feed 21", NONE, x.feed(0, 0, 0, 0, 0));
        due("end 401", false, x.end(401));
        due("end -1", false, x.end(-1));
        due("end 400", true, x.end(400));
        due("end 381", true, x.end(381));
        due("feed at 381", NONE, x.feed(0, 0, 0, 0, 0));
        due("end 380", true, x.end(380));
        due("feed at 380", 400, x.feed(0, 0, 0, 0, 0));
        due("end 0", true, x.end(0));
        due("end 1", false, x.end(1));
        due("feed", 20, x.feed('f' << 24 | 'a' << 16 | 'd' << 8 | 'e', 's' << 24 | ' ' << 16 | '7' << 8 | ';', 0, 0, 0));
        due("end 8", true, x.end(8));
        due("the highest first", 1, x.text(0));
    }

    private static void promise10Law() {
        RockingPorch x = porch();
        x.set(3, 0, 2);
        String[] told = {"7", "1+2*3-4", "20-3-4", "7/2", "(0-7)/2", "0-7/2+50", "3-7*1/2*10+90", "9999*9999*43-3500", "1-9999*9999*32",
            "run+draught*here", "minute+1", "2*9/4*3", "0003", "100", "0-1"};
        int[] due = {7, 3, 13, 3, NONE, 47, 63, 99, 99, 10, 1, 12, 3, 99, 0};
        int before = x.of(0, 10);
        for (int i = 0; i < told.length; i++) {
            due(told[i], due[i] == NONE ? NONE : 1, Check.tell(x, 0, "swings " + told[i] + ";"));
            before = due[i] == NONE ? before : due[i];
            due("is " + told[i], before, x.of(0, 10));
        }
        due("a wrap to below 0", true, 9999 * 9999 * 32 < 0 && 9999 * 9999 * 43 - 3500 > 99);
        due("/ goes towards 0", 1, Check.tell(x, 0, "swings run-dear*3/2*2 - 9/2 + 50;"));
        due("so it is", 4 - 8 - 4 + 50, x.of(0, 10));
        due("of what is below 0", 1, Check.tell(x, 0, "swings 50 when 9999*9999*32/1000 = 0-1095*1000-607;"));
        due("not downwards", 50, x.of(0, 10));
        String[] so = {"1=1", "1<1", "1>1", "not 1=1", "(1=1)", "not not 1=1", "1=2 or 1=1 and 2=2", "1=1 or 1=1 and 1=2",
            "(1=1 or 1=1) and 1=2", "not 1=2 and 1=2", "not (1=2 and 1=2)", "1=2 or 1=2 or 1=1", "1=1 and 1=1 and 1=2",
            "((((((((1=1))))))))", "not(not(not(not 1=1)))", "0-1<0", "dear=3", "swing=0"};
        int[] is = {1, 0, 0, 0, 1, 1, 1, 1, 0, 0, 1, 1, 0, 1, 1, 1, 1, 1};
        for (int i = 0; i < so.length; i++) {
            due(so[i], 2, Check.tell(x, 0, "swings 50 when " + so[i] + ";swings 5;"));
            due("is " + so[i], is[i] == 1 ? 50 : 5, x.of(0, 10));
        }
        due("none so", 1, Check.tell(x, 0, "swings 50 when 1=2;"));
        due("as untold", 30, x.of(0, 10));
        due("empty", 0, Check.tell(x, 0, ""));
        due("blanks", 0, Check.tell(x, 0, " \n \n"));
        due("close together", 1, Check.tell(x, 0, "fades1when1=1and2<3;"));
        due("spread", 1, Check.tell(x, 0, "\n fades\n20 ; "));
        due("as told", 20, x.of(0, 4));
    }

    private static void promise10LawFaults() {
        RockingPorch x = porch();
        Check.tell(x, 0, "fades 3;");
        String[] wrong = {"fades", "fades 1", "fades 1 1;", "Fades 1;", "fades 1;;", "fades -1;", "fades (1);", "fades 1/run;",
            "fades 1/0;", "fades 1/0000;", "fades 1/00000;", "fades 1 when 1;", "fades 1 when 1=1=1;", "fades 1 when (1+1)=2;",
            "fades 1 when 1=1);", "fades 1 when (1=1;", "fades 1 when not;", "fades 1 when 1=1 not 1=1;", "fades 1 when;",
            "fades 10000;", "fades 1 # ;", "fades sit;", "fades 1 when 1=1 or;", "fades 1 when or 1=1;", "fades runs;", "1;",
            "fades 1*;", "fades 1+;", "fades 1\t;", "fades 1" + (char) 200 + ";", "fades 1 when 1==1;",
            "fadesz 1;", "fadesZ 1;", "fadesA 1;", "fadesaa 1;", "fades`1;", "fades{1;", "fades@1;", "fades[1;", "fades 1:;", "fades 90/9:",
            "fades 1 when ((((((((not 1=1))))))));", "fades 1 when (((((((( 1/0=1", "fades 1 when 1=1 and ((((((((( 1=1"};
        int[] fault = {1, 1, 1, 1, 1, 1, 1, 1, 2, 2, 1, 1, 1, 1, 1, 1, 1, 1, 1, 1, 1, 1, 1, 1, 1, 1, 1, 1, 1, 1, 1, 1, 1, 1, 1, 1, 1, 1, 1, 1, 1, 3, 2, 3};
        int[] place = {5, 7, 8, 0, 8, 6, 6, 8, 8, 8, 8, 14, 16, 17, 16, 17, 16, 17, 12, 6, 8, 6, 19, 13, 6, 0, 8, 8, 7, 7, 15, 0, 0,
            0, 0, 5, 5, 5, 5, 7, 10, 21, 24, 29};
        for (int i = 0; i < wrong.length; i++) {
            due(wrong[i], NONE, Check.tell(x, 0, wrong[i]));
            due("fault of " + wrong[i], fault[i], x.fault(0));
            due("place of " + wrong[i], place[i], x.fault(1));
            due("stays with " + wrong[i], 3, x.of(0, 4));
            due("tape empty with " + wrong[i], false, x.end(1));
        }
    }

    private static void promise10LineFaults() {
        RockingPorch x = porch();
        String[] wrong = {"1at 1000 person 0 rise;", "1at 0999 person 3 rise;", "1at 0 person 0 sit 2;", "1at 0 person 0 sit;",
            "1at 0 person 0 come 1;", "1at 0 person 0 minds 1;", "1at 0 person 0 cat 1;", "1at person 0 rise;", "1at 0 0 rise;",
            "1at 0 person 0 rise", "1at 12345 person 0 rise;", "1person 0 rise;", "2at 1000 hush;", "2at 0 cat 2;",
            "2at 0 draught 10;", "2at 0 hush 1;", "2at 0 sit 1;", "2at 0 cat;", "2at 0 draught;", "2at 0;", "2at", "3person 3 minds 0;",
            "3person 0 minds 3;", "3person 0 minds 0;", "3person 0 minds 1", "3person 0 1;", "3minds 0;", "3person minds 0;",
            "3person 9 minds 9;"};
        int[] fault = {2, 2, 2, 1, 1, 1, 1, 1, 1, 1, 1, 1, 2, 2, 2, 1, 1, 1, 1, 1, 1, 2, 2, 2, 1, 1, 1, 1, 2};
        int[] place = {3, 15, 18, 17, 19, 14, 14, 3, 5, 18, 3, 0, 3, 9, 13, 10, 5, 8, 12, 4, 2, 7, 15, 15, 16, 9, 0, 7, 7};
        for (int i = 0; i < wrong.length; i++) {
            int k = wrong[i].charAt(0) - '0';
            due(wrong[i], NONE, Check.tell(x, k, wrong[i].substring(1)));
            due("fault of " + wrong[i], fault[i], x.fault(0));
            due("place of " + wrong[i], place[i], x.fault(1));
            due("none of " + wrong[i], 0, x.look(10 + k));
        }
        due("calls", 4, Check.tell(x, 1, "at 999 person 2 sit 1;at 0 person 0 rise;at 0 person 0 go;at 0 person 0 come;"));
        due("house", 3, Check.tell(x, 2, "at 999 cat 1;at 0 draught 9;at 0 hush;"));
        due("kin", 2, Check.tell(x, 3, "person 2 minds 0;person 2 minds 0;"));
        due("one to mind", 4, x.who(0, 6));
        due("lines of kin", 2, x.look(13));
        due("calls anew", 0, Check.tell(x, 1, ""));
        due("lines of calls", 0, x.look(11));
        due("lines of house", 3, x.look(12));
        RockingPorch y = new RockingPorch();
        due("no person there", NONE, Check.tell(y, 1, "at 0 person 0 rise;"));
        due("its fault", 2, y.fault(0));
        due("no chair there", NONE, Check.tell(y, 2, "at 0 cat 0;"));
        due("its fault", 2, y.fault(0));
    }

    private static void promise10Limits() {
        RockingPorch x = porch();
        String[] lines = {"fades 1;", "at 0 person 0 come;", "at 0 cat 0;", "person 0 minds 1;"};
        String[] seventeenth = {"jumps", "at", "at", "person"};
        for (int k = 0; k < 4; k++) {
            String sixteen = lines[k].repeat(16);
            due("sixteen of " + k, 16, Check.tell(x, k, sixteen));
            due("seventeen of " + k, NONE, Check.tell(x, k, sixteen + " " + seventeenth[k]));
            due("fault of " + k, 3, x.fault(0));
            due("place of " + k, sixteen.length() + 1, x.fault(1));
            due("no line of " + k, NONE, Check.tell(x, k, sixteen + "7"));
            due("fault of no line of " + k, 1, x.fault(0));
            due("stays " + k, 16, x.look(10 + k));
        }
        String nots = "not ".repeat(8);
        due("eight not", 1, Check.tell(x, 0, "fades 1 when " + nots + "1=1;"));
        due("so", 1, x.of(0, 4));
        due("eight not twice", 1, Check.tell(x, 0, "fades 1 when " + nots + "1=1 and " + nots + "1=1;"));
        due("nine not", NONE, Check.tell(x, 0, "fades 1 when " + nots + "not 1=1;"));
        due("place of nine", 13 + 32, x.fault(1));
        due("not and ( together", NONE, Check.tell(x, 0, "fades 1 when not(not(not(not(not 1=1))));"));
        due("place of the ninth", 13 + 16, x.fault(1));
        for (int v = 7; v <= 8; v++) {
            String deep = "1=2 or 1=1 and (".repeat(8) + "1=2 or 1=1 and 1+2*3=0+1*" + v + ")".repeat(8);
            due("all that may wait " + v, 2, Check.tell(x, 0, "fades 15 when " + deep + ";fades 5;"));
            due("so or not " + v, v == 7 ? 15 : 5, x.of(0, 4));
        }
        String ors = "1=2 or ".repeat(20);
        due("a long one", 1, Check.tell(x, 0, "fades 1 when " + ors + "((((((((" + "1=1))))))));"));
        due("a full tape", NONE, Check.tell(x, 0, "1".repeat(400)));
        due("of signs", NONE, Check.tell(x, 0, ";".repeat(400)));
        due("at", 0, x.fault(1));
        String digits = "fades 1" + "+1".repeat(196) + ";";
        due("its length", 400, digits.length());
        due("a long sum", 1, Check.tell(x, 0, digits));
        due("held", 20, x.of(0, 4));
    }

    private static void promise11Fault() {
        RockingPorch x = porch();
        Check.tell(x, 0, "fades;");
        due("fault", 1, x.fault(0));
        due("place", 5, x.fault(1));
        due("fault 2", NONE, x.fault(2));
        due("fault -1", NONE, x.fault(-1));
        int[] none = {4, -1, LOW, HIGH};
        for (int k : none) {
            Check.tell(x, 0, "fades;");
            x.feed(1, 2, 3, 4, 5);
            due("text " + k, NONE, x.text(k));
            due("no fault of " + k, 0, x.fault(0));
            due("no place of " + k, NONE, x.fault(1));
            due("tape empty of " + k, false, x.end(1));
        }
        Check.tell(x, 0, "fades;");
        due("a good one", 1, Check.tell(x, 0, "fades 1;"));
        due("none then", 0, x.fault(0));
        due("nowhere", NONE, x.fault(1));
    }

    private static void promise12Of() {
        RockingPorch x = rocking();
        Check.tell(x, 3, "person 1 minds 0;person 2 minds 0;");
        due("swings", 40, x.of(0, 10));
        due("swings of 1", 10, x.of(1, 11));
        due("swings of 2", 0, x.of(1, 12));
        due("swings of 3", -2, x.of(1, 13));
        due("fades", 6, x.of(0, 4));
        due("jumps", 750, x.of(0, 5));
        due("fades of a still one", 1, x.of(1, 4));
        due("jumps of a still one", 900, x.of(1, 5));
        int[] wrong = {-1, 6, 9, 24, LOW, HIGH};
        for (int what : wrong) {
            due("of what " + what, -2, x.of(0, what));
        }
        due("of 2", -2, x.of(2, 0));
        due("of -1", -2, x.of(-1, 0));
        Check.tell(x, 0, "swings swing+minds;fades dear+sat;jumps 1000+missed;");
        due("swing as it is", 32, x.of(0, 10));
        due("whom it is for", 4, x.of(0, 4));
        due("for none", 0, x.of(1, 4));
        due("held", 1000, x.of(0, 5));
        Check.tell(x, 1, "at 0 person 1 go;");
        x.minutes(1);
        due("minds who is here", 26 + 1, x.of(0, 10));
        Check.tell(x, 0, "swings here;fades 0-5;jumps 0-1;");
        due("wherever he is", 2, x.of(0, 11));
        due("held fades", 0, x.of(0, 4));
        due("held jumps", 0, x.of(0, 5));
    }

    private static void promise13Who() {
        RockingPorch x = rocking();
        Check.tell(x, 3, "person 1 minds 0;person 2 minds 0;person 2 minds 1;");
        Check.tell(x, 1, "at 0 person 1 go;at 0 person 2 sit 1;");
        x.minutes(1);
        due("dear", 3, x.who(0, 0));
        due("away", 0, x.who(1, 1));
        due("sits", 2, x.who(2, 1));
        due("missed", 1, x.who(0, 2));
        due("sat", 1, x.who(2, 3));
        due("chair", 1, x.who(2, 4));
        due("no chair", NONE, x.who(0, 4));
        due("rock for", 1, x.who(0, 5));
        due("none rock for", 0, x.who(2, 5));
        due("minded by", 6, x.who(0, 6));
        due("minded by 2", 4, x.who(1, 6));
        due("minded by none", 0, x.who(2, 6));
        int[] wrong = {-1, 7, LOW, HIGH};
        for (int what : wrong) {
            due("who what " + what, -2, x.who(0, what));
        }
        due("who 3", -2, x.who(3, 0));
        due("who -1", -2, x.who(-1, 0));
    }

    private static void promise14Book() {
        RockingPorch x = porch();
        Check.tell(x, 0, "swings 0;");
        for (int i = 0; i < 75; i++) {
            x.act(0, 0, 0);
            x.act(1, 0, 0);
        }
        due("lines", 150, x.look(8));
        due("sit on", true, x.act(0, 0, 1));
        due("no more lines", 150, x.look(8));
        due("what", 2, x.book(149, 1));
        due("who", 0, x.book(149, 2));
        due("none", NONE, x.book(150, 0));
        due("line -1", NONE, x.book(-1, 0));
        due("what 4", NONE, x.book(0, 4));
        due("what -1", NONE, x.book(0, -1));
        due("far", NONE, x.book(HIGH, HIGH));
        Check.tell(x, 1, "at 0 person 1 sit 1;");
        due("no seat is counted", 1, x.minutes(1));
        due("unwritten", 150, x.look(8));
    }

    private static void promise15Goes() {
        RockingPorch x = rocking();
        Check.tell(x, 1, "at 0 person 1 sit 1;at 2 person 1 rise;");
        Check.tell(x, 2, "at 1 cat 0;");
        due("swing 1", 24, x.goes(1, 0));
        due("jumps 780 in thought", 0, x.goes(2, 0));
        due("rises in thought", 9, x.goes(3, 0));
        due("missed", 2, x.goes(3, 1));
        due("sat", 2, x.goes(60, 2));
        due("free 1", 0, x.goes(1, 3));
        due("free 2", 1, x.goes(2, 3));
        due("free 60", 2, x.goes(60, 3));
        Check.tell(x, 0, "jumps 499;fades 0;");
        due("too unlikely", 30, x.goes(2, 0));
        Check.tell(x, 0, "jumps 500;fades 0;");
        due("likely", 0, x.goes(2, 0));
        due("minute stays", 0, x.look(7));
        due("lines stay", 2, x.look(8));
        due("state stays", 0, x.look(9));
        due("swing stays", 30, x.of(0, 1));
        due("stilled stays", 0, x.look(6));
        int[] wrong = {0, 61, -1, LOW, HIGH};
        for (int n : wrong) {
            due("goes " + n, NONE, x.goes(n, 0));
        }
        due("goes what 4", NONE, x.goes(1, 4));
        due("goes what -1", NONE, x.goes(1, -1));
    }

    private static void promise16Seat() {
        RockingPorch x = new RockingPorch();
        due("no chairs", NONE, x.seat());
        x.chair(4);
        x.person(3);
        due("now", 0, x.seat());
        x.act(0, 0, 0);
        due("taken for ever", NONE, x.seat());
        Check.tell(x, 1, "at 2 person 0 rise;");
        due("rises, then fades", 2 + 5, x.seat());
        Check.tell(x, 0, "swings 59;fades 1;");
        due("behind 61", NONE, x.seat());
        Check.tell(x, 0, "swings 58;fades 1;");
        due("at the last", 60, x.seat());
        due("minute stays", 0, x.look(7));
    }

    private static void promise17And18Ticks() {
        RockingPorch x = new RockingPorch();
        int[][] wrong = {{0, 0}, {0, 13}, {3, 3}, {-1, 3}, {0, -2}, {0, LOW}, {HIGH, 12}, {LOW, 5}};
        for (int[] w : wrong) {
            due("tick " + w[0] + " " + w[1], NONE, x.tick(w[0], w[1]));
        }
        due("least of none", 0, x.ticks(0));
        due("again of none", 1, x.ticks(1));
        due("tick", 1, x.tick(10, 11));
        due("tick", 2, x.tick(8, 9));
        due("tick", 3, x.tick(6, 7));
        due("tick", 4, x.tick(9, 10));
        due("a fifth", NONE, x.tick(0, 1));
        due("least", 6929, x.ticks(0));
        due("again", 6930, x.ticks(1));
        due("none then", 0, x.tick(HIGH, NONE));
        due("tick 1 4", 1, x.tick(1, 4));
        due("tick 3 6", 2, x.tick(3, 6));
        due("least 9", 9, x.ticks(0));
        due("again 12", 12, x.ticks(1));
        due("the same once more", 3, x.tick(3, 6));
        due("never", 4, x.tick(0, 2));
        due("no least", NONE, x.ticks(0));
        due("no again", NONE, x.ticks(1));
        due("ticks 2", NONE, x.ticks(2));
        due("ticks -1", NONE, x.ticks(-1));
    }

    private static void promise19And20Seated() {
        RockingPorch x = new RockingPorch();
        int[][] wrong = {{0, 0}, {7, 0}, {0, 7}, {-2, 1}, {1, -1}, {LOW, HIGH}};
        for (int[] w : wrong) {
            due("apart " + w[0] + " " + w[1], NONE, x.apart(w[0], w[1]));
        }
        int[] row = {1, 2, 6, 24, 120, 720, 5040};
        for (int n = 1; n <= 7; n++) {
            due("row of " + n, row[n - 1], x.seated(n, 0));
            due("ring of " + n, row[n - 1], x.seated(n, 1));
        }
        due("apart 0 1", 1, x.apart(0, 1));
        due("row of 3", 2, x.seated(3, 0));
        due("ring of 4", 8, x.seated(4, 1));
        due("ring of 2", 0, x.seated(2, 1));
        due("row of 1", 1, x.seated(1, 0));
        due("ring of 1", 1, x.seated(1, 1));
        due("those not below n", 2, x.apart(6, 5));
        due("do not count", 2, x.seated(3, 0));
        for (int i = 3; i <= 10; i++) {
            due("told twice " + i, i, x.apart(1, 0));
        }
        due("an eleventh", NONE, x.apart(2, 3));
        due("row of 7", 5040 - 2 * 1440 + 480, x.seated(7, 0));
        due("none then", 0, x.apart(NONE, 99));
        due("row of 7 then", 5040, x.seated(7, 0));
        int[] wrongN = {0, 8, -1, LOW, HIGH};
        for (int n : wrongN) {
            due("seated " + n, NONE, x.seated(n, 0));
        }
        due("seated what 2", NONE, x.seated(3, 2));
        due("seated what -1", NONE, x.seated(3, -1));
    }

    private static void promise21And22Line() {
        RockingPorch x = new RockingPorch();
        int[][] wrong = {{21, 0}, {0, 21}, {-2, 0}, {0, -1}, {LOW, HIGH}};
        for (int[] w : wrong) {
            due("point " + w[0] + " " + w[1], NONE, x.point(w[0], w[1]));
        }
        due("most of none", 0, x.line(0));
        due("point", 1, x.point(0, 20));
        due("most of one", 1, x.line(0));
        due("least of one", NONE, x.line(1));
        due("greatest of one", NONE, x.line(2));
        due("told already", NONE, x.point(0, 20));
        due("point", 2, x.point(20, 0));
        due("most of two", 2, x.line(0));
        due("least of two", 800, x.line(1));
        due("greatest of two", 800, x.line(2));
        due("point", 3, x.point(0, 19));
        due("most of three", 2, x.line(0));
        due("point", 4, x.point(0, 0));
        due("upright", 3, x.line(0));
        due("point", 5, x.point(7, 13));
        due("point", 6, x.point(3, 17));
        due("slanting", 4, x.line(0));
        due("least", 1, x.line(1));
        due("point", 7, x.point(1, 0));
        due("point", 8, x.point(2, 0));
        due("level", 4, x.line(0));
        due("a ninth", NONE, x.point(9, 9));
        due("none then", 0, x.point(NONE, HIGH));
        due("most then", 0, x.line(0));
        due("line 3", NONE, x.line(3));
        due("line -1", NONE, x.line(-1));
    }

    private static void promise23And24Rug() {
        RockingPorch x = new RockingPorch();
        int[][] wrong = {{6, 0}, {0, 6}, {-1, 0}, {0, -1}, {LOW, 0}, {0, HIGH}};
        for (int[] w : wrong) {
            due("full " + w[0] + " " + w[1], false, x.full(w[0], w[1], true));
        }
        due("all", 441, x.rug(0));
        due("the greatest", 36, x.rug(1));
        due("full", true, x.full(2, 0, true));
        due("less", 441 - 12 * 6, x.rug(0));
        due("its greatest", 30, x.rug(1));
        due("full again", true, x.full(2, 0, true));
        due("as it was", 441 - 12 * 6, x.rug(0));
        due("free", true, x.full(2, 0, false));
        due("all again", 441, x.rug(0));
        for (int y = 0; y < 6; y++) {
            x.full(2, y, true);
        }
        due("beside", 21 * (3 + 6), x.rug(0));
        due("the wider side", 18, x.rug(1));
        for (int i = 0; i < 36; i++) {
            x.full(i % 6, i / 6, true);
        }
        due("none", 0, x.rug(0));
        due("none great", 0, x.rug(1));
        x.full(5, 5, false);
        due("one", 1, x.rug(0));
        due("one place", 1, x.rug(1));
        due("rug 2", NONE, x.rug(2));
        due("rug -1", NONE, x.rug(-1));
    }

    private static void promise25Stack() {
        RockingPorch x = new RockingPorch();
        due("one", 1, x.stack(10, 0));
        due("one track", 1, x.stack(10, 1));
        due("eight down", 1, x.stack(176543210, 0));
        due("eight tracks", 8, x.stack(176543210, 1));
        due("eight up", 1, x.stack(101234567, 0));
        due("on one", 1, x.stack(101234567, 1));
        due("201", 0, x.stack(1201, 0));
        due("3012", 0, x.stack(13012, 0));
        due("1032", 1, x.stack(11032, 0));
        due("1032 on", 2, x.stack(11032, 1));
        int[] wrong = {0, 1, 9, 11, 19, 20, 100, 1022, 1123, 2012, 1012345678, 186543210, 1000000000, -10, -1201, LOW, HIGH, 276543210};
        for (int order : wrong) {
            due("stack " + order, NONE, x.stack(order, 0));
            due("stack " + order, NONE, x.stack(order, 1));
        }
        due("stack what 2", NONE, x.stack(10, 2));
        due("stack what -1", NONE, x.stack(10, -1));
    }

    private static void promise26And27Trunks() {
        RockingPorch x = new RockingPorch();
        int[] wrong = {0, 100, -2, LOW, HIGH};
        for (int v : wrong) {
            due("weight " + v, NONE, x.weight(v));
            due("trunks of " + v, NONE, x.trunks(v, 0));
        }
        due("none", 0, x.trunks(1, 0));
        due("fewest of none", 0, x.trunks(99, 1));
        int[] weights = {4, 7, 3, 6, 5, 5, 9, 1, 10};
        for (int i = 0; i < 9; i++) {
            due("weight", i + 1, x.weight(weights[i]));
        }
        due("a tenth", NONE, x.weight(1));
        due("as they come", 6, x.trunks(10, 0));
        due("the fewest", 5, x.trunks(10, 1));
        due("too heavy", NONE, x.trunks(9, 0));
        due("too heavy", NONE, x.trunks(9, 1));
        due("all in one", 1, x.trunks(50, 0));
        due("all in one", 1, x.trunks(50, 1));
        due("in two", 2, x.trunks(49, 1));
        due("trunks what 2", NONE, x.trunks(50, 2));
        due("trunks what -1", NONE, x.trunks(50, -1));
        due("none then", 0, x.weight(NONE));
        due("no trunks", 0, x.trunks(1, 1));
        for (int i = 0; i < 9; i++) {
            x.weight(99);
        }
        due("each its own", 9, x.trunks(99, 0));
        due("each its own", 9, x.trunks(99, 1));
    }

    private static void promise28And29Throws() {
        RockingPorch x = new RockingPorch();
        due("one", 2, x.throwing(2));
        due("one head", 2, x.throwing(3));
        due("eight heads", 510, x.throwing(511));
        due("0101 0101", 256 + 64 + 16 + 4, x.throwing(0b101010101));
        due("last not like the first", 256, x.throwing(0b100000001));
        int[] wrong = {0, 1, -1, 512, LOW, HIGH};
        for (int a : wrong) {
            due("throwing " + a, NONE, x.throwing(a));
            due("ahead " + a, NONE, x.ahead(a, 3, 0));
            due("ahead of " + a, NONE, x.ahead(3, a, 0));
        }
        due("heads ahead", 1, x.ahead(3, 2, 0));
        due("of", 2, x.ahead(3, 2, 1));
        due("011 ahead of 110", 3, x.ahead(0b1011, 0b1110, 0));
        due("of", 4, x.ahead(0b1011, 0b1110, 1));
        due("111 ahead of 011", 1, x.ahead(0b1111, 0b1011, 0));
        due("of", 8, x.ahead(0b1111, 0b1011, 1));
        due("alike", NONE, x.ahead(7, 7, 0));
        due("not as many", NONE, x.ahead(7, 8, 0));
        due("ahead what 2", NONE, x.ahead(3, 2, 2));
        due("ahead what -1", NONE, x.ahead(3, 2, -1));
    }

    private static void promise30Hands() {
        RockingPorch x = new RockingPorch();
        due("at 0", 0, x.hands(0, 0));
        due("at 6", 360, x.hands(360, 0));
        due("all as near", 361, x.hands(360, 1));
        due("at the last", 11, x.hands(719, 0));
        int many = 0;
        for (int t = 0; t < 720; t++) {
            int d = Math.abs(t * 12 % 720 - t);
            many += Math.min(d, 720 - d) <= 11 ? 1 : 0;
        }
        due("as near in a day", many, x.hands(719, 1));
        int[] wrong = {-1, 720, LOW, HIGH};
        for (int t : wrong) {
            due("hands " + t, NONE, x.hands(t, 0));
        }
        due("hands what 2", NONE, x.hands(0, 2));
        due("hands what -1", NONE, x.hands(0, -1));
    }

    private static void promise31And32Steps() {
        RockingPorch x = new RockingPorch();
        int[] wrong = {61, -2, LOW, HIGH};
        for (int v : wrong) {
            due("step " + v, NONE, x.step(v));
        }
        due("none in a row", 0, x.steps(1));
        due("step", 1, x.step(60));
        due("one in a row", 1, x.steps(1));
        due("told already", NONE, x.step(60));
        due("step", 2, x.step(0));
        due("two in a row", 2, x.steps(1));
        due("no threes", 0, x.steps(0));
        due("step", 3, x.step(30));
        due("threes", 1, x.steps(0));
        due("three in a row", 3, x.steps(1));
        due("step", 4, x.step(15));
        due("threes of 4", 2, x.steps(0));
        due("step", 5, x.step(45));
        due("five in a row", 5, x.steps(1));
        due("threes of 5", 4, x.steps(0));
        for (int i = 6; i <= 10; i++) {
            due("step", i, x.step(i));
        }
        due("an eleventh", NONE, x.step(11));
        due("steps 2", NONE, x.steps(2));
        due("steps -1", NONE, x.steps(-1));
        due("none then", 0, x.step(NONE));
        due("threes of none", 0, x.steps(0));
    }

    private static void promise33And34Slide() {
        RockingPorch x = new RockingPorch();
        int[] wrong = {41, -2, LOW, HIGH};
        for (int v : wrong) {
            due("coin " + v, NONE, x.coin(v));
        }
        due("loses at once", NONE, x.slide());
        due("coin", 1, x.coin(40));
        due("all the way", 4040, x.slide());
        due("told already", NONE, x.coin(40));
        due("coin", 2, x.coin(39));
        due("side by side loses", NONE, x.slide());
        due("coin", 3, x.coin(0));
        due("the lowest can't", NONE, x.slide());
        due("coin", 4, x.coin(3));
        due("the first", 302, x.slide());
        due("coin", 5, x.coin(20));
        due("coin", 6, x.coin(21));
        due("a seventh", NONE, x.coin(7));
        due("none then", 0, x.coin(NONE));
        due("loses then", NONE, x.slide());
    }

    private static void promise35Undo() {
        RockingPorch x = porch();
        due("nothing", false, x.undo());
        x.act(0, 0, 0);
        x.act(1, 0, 0);
        x.act(2, 0, 0);
        due("three", 3, x.look(14));
        due("stilled", 1, x.look(6));
        due("undo the cat", true, x.undo());
        due("not stilled", 0, x.look(6));
        due("rocks", 30, x.of(0, 1));
        due("its state", 0, x.look(9));
        due("its line", 2, x.look(8));
        x.act(3, 0, 0);
        due("undo the stilling", true, x.undo());
        due("rocks for", 0, x.of(0, 2));
        due("undo the rising", true, x.undo());
        due("sits", 0, x.who(0, 4));
        due("undo the sitting", true, x.undo());
        due("sat", 0, x.who(0, 3));
        due("no lines", 0, x.look(8));
        due("nothing more", false, x.undo());
        Check.tell(x, 1, "at 1 person 0 sit 0;at 9 person 0 go;");
        Check.tell(x, 2, "at 3 draught 5;");
        x.minutes(10);
        due("six", 6, x.look(14));
        for (int i = 0; i < 6; i++) {
            due("undo " + i, true, x.undo());
            due("minute " + i, 9 - i, x.look(7));
        }
        due("no seventh", false, x.undo());
        due("draught", 5, x.look(5));
        due("sits still", 2, x.who(0, 1));
    }

    private static void promise35Forgetting() {
        RockingPorch x = rocking();
        x.tick(0, 2);
        x.tick(0, NONE);
        x.apart(0, 1);
        x.point(1, 1);
        x.full(0, 0, true);
        x.weight(3);
        x.step(4);
        x.coin(5);
        Check.tell(x, 0, "fades 2;");
        Check.tell(x, 3, "person 0 minds 1;");
        Check.tell(x, 1, "at;");
        Check.tell(x, 2, "at;");
        x.text(4);
        x.feed(0, 0, 0, 0, 0);
        x.end(0);
        x.chair(10);
        x.person(-1);
        x.set(3, 0, 10);
        x.set(2, 1, 1);
        x.act(1, 0, 0);
        x.minutes(0);
        x.image(false);
        x.image(true);
        x.goes(5, 0);
        x.seat();
        due("kept through all these", 2, x.look(14));
        x.undo();
        due("the law stays", 2, x.of(0, 4));
        due("kin stays", 1, x.who(1, 6));
        due("thought stays", 501 + 4, x.slide());
        for (int i = 0; i < 10; i++) {
            x = rocking();
            x.image(true);
            due("two before " + i, 2, x.look(14));
            forget(x, i);
            due("forgotten by " + i, 0, x.look(14));
            due("nothing to undo by " + i, false, x.undo());
        }
    }

    private static void forget(RockingPorch x, int how) {
        switch (how) {
            case 0: x.state(0); break;
            case 1: x.chair(1); break;
            case 2: x.person(1); break;
            case 3: x.set(0, 0, 4); break;
            case 4: x.set(1, 0, 3); break;
            case 5: x.set(2, 0, 30); break;
            case 6: x.set(3, 0, 0); break;
            case 7: x.text(1); break;
            case 8: x.text(2); break;
            default: x.image(false); break;
        }
    }

    private static void promise36Image() {
        RockingPorch x = rocking();
        tellAll(x, 1);
        due("none yet", false, x.image(false));
        due("taken", true, x.image(true));
        x.undo();
        x.act(0, 1, 1);
        x.act(1, 1, 0);
        x.act(3, 0, 0);
        x.minutes(7);
        x.chair(0);
        x.person(0);
        x.set(0, 0, 0);
        x.set(1, 0, 0);
        x.set(3, 0, 8);
        x.state(77);
        tellAll(x, 0);
        Check.tell(x, 0, "fades;");
        x.feed(0, 0, 0, 0, 0);
        for (int i = 0; i < 2; i++) {
            x.minutes(1);
            due("gone back", true, x.image(false));
            int[] look = {2, 3, 1, 2, 0, 0, 0, 0, 2, 0, 1, 1, 1, 1, 0};
            for (int what = 0; what < look.length; what++) {
                due("look " + what, look[what], x.look(what));
            }
            due("line 0", 0, x.book(0, 1));
            due("line 1 by", 30, x.book(1, 3));
            due("run", 4, x.of(0, 0));
            due("swing", 30, x.of(0, 1));
            due("dear", 3, x.who(0, 0));
            due("law", 9, x.of(0, 4));
            due("kin", 1, x.who(1, 6));
            due("ticks", 3, x.ticks(1));
            due("seated", 0, x.seated(2, 0));
            due("line", 1, x.line(0));
            due("rug", 30, x.rug(1));
            due("trunks", 1, x.trunks(9, 0));
            due("steps", 1, x.steps(1));
            due("slide", 101, x.slide());
            due("fault stays", 1, x.fault(0));
            due("the tape stays", true, x.end(20));
        }
        due("calls are back", 0, x.minutes(1));
        due("by the call", 1, x.look(4));
        due("by the house", 3, x.look(5));
        due("taken anew", true, x.image(true));
        x.minutes(1);
        x.image(false);
        due("that one", 1, x.look(7));
    }

    private static void tellAll(RockingPorch x, int how) {
        Check.tell(x, 0, how == 1 ? "fades 9;" : "");
        Check.tell(x, 1, how == 1 ? "at 0 person 0 go;" : "");
        Check.tell(x, 2, how == 1 ? "at 0 draught 3;" : "");
        Check.tell(x, 3, how == 1 ? "person 0 minds 1;" : "");
        x.full(0, 0, how == 1);
        if (how == 1) {
            x.tick(0, 3);
            x.apart(0, 1);
            x.point(0, 0);
            x.weight(9);
            x.step(1);
            x.coin(1);
        } else {
            x.tick(0, NONE);
            x.apart(NONE, 0);
            x.point(NONE, 0);
            x.weight(NONE);
            x.step(NONE);
            x.coin(NONE);
        }
    }

    private static void promise37Look() {
        RockingPorch x = rocking();
        Check.tell(x, 1, "at 1 person 2 go;");
        Check.tell(x, 2, "at 1 draught 4;at 5 hush;");
        Check.tell(x, 3, "person 0 minds 1;person 0 minds 2;person 0 minds 1;");
        Check.tell(x, 0, "fades 1;swings 3;fades 1;jumps 1000;");
        x.minutes(2);
        x.act(2, 0, 0);
        int[] due = {2, 3, 0, 3, 4, 4, 1, 2, 4, 1013904223, 4, 1, 2, 3, 3};
        for (int what = 0; what < due.length; what++) {
            due("look " + what, due[what], x.look(what));
        }
        x.act(0, 1, 1);
        x.act(1, 1, 0);
        due("rocks", 2, x.look(2));
        due("free", 1, x.look(3));
        int[] wrong = {-1, 15, LOW, HIGH};
        for (int what : wrong) {
            due("look " + what, -100000, x.look(what));
        }
    }
}
