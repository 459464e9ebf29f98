/** What the tests of the document's sentences share. */
abstract class Bounds {
    static final int NONE = RockingPorch.NONE;
    static final int LOW = Integer.MIN_VALUE;
    static final int HIGH = Integer.MAX_VALUE;

    private final Check check;
    private final Sentences sentences;
    private String sentence = "";

    Bounds(Check check, Sentences sentences) {
        this.check = check;
        this.sentences = sentences;
    }

    final void in(String section) {
        sentences.in(section);
    }

    /** The sentence that the answers below are of. */
    final void of(String told) {
        sentence = told;
        sentences.of(told);
    }

    final void due(String what, long want, long got) {
        check.due("'" + sentence + "' " + what, want, got);
    }

    final void due(String what, boolean want, boolean got) {
        due(what, want ? 1 : 0, got ? 1 : 0);
    }

    /** Chairs and persons by digits: how smoothly each runs, how dear each is. */
    static RockingPorch porch(String runs, String dears) {
        RockingPorch x = new RockingPorch();
        for (char run : runs.toCharArray()) {
            x.chair(run - '0');
        }
        for (char dear : dears.toCharArray()) {
            x.person(dear - '0');
        }
        return x;
    }

    /** Chairs that run 4 and 9, persons as dear as 3, 1, 0. */
    static RockingPorch porch() {
        return porch("49", "310");
    }

    /** The same, and chair 0 rocks so far for person 0, who stands; two lines are in the book. */
    static RockingPorch rocking(int swing) {
        RockingPorch x = porch();
        x.act(0, 0, 0);
        x.act(1, 0, 0);
        x.set(2, 0, swing);
        return x;
    }

    static void law(RockingPorch x, String text) {
        Check.tell(x, 0, text);
    }

    static void calls(RockingPorch x, String text) {
        Check.tell(x, 1, text);
    }

    static void house(RockingPorch x, String text) {
        Check.tell(x, 2, text);
    }

    static void kin(RockingPorch x, String text) {
        Check.tell(x, 3, text);
    }

    final void dueLine(RockingPorch x, int line, int minute, int what, int who, int much) {
        due("line " + line + " minute", minute, x.book(line, 0));
        due("line " + line + " what", what, x.book(line, 1));
        due("line " + line + " who", who, x.book(line, 2));
        due("line " + line + " how much", much, x.book(line, 3));
    }

    /** All that is, the last lines of the book too; few calls, as an object is good for 512 of them. */
    static String seen(RockingPorch x) {
        StringBuilder all = new StringBuilder();
        int[] looks = new int[15];
        for (int what = 0; what < looks.length; what++) {
            looks[what] = x.look(what);
            all.append(looks[what]).append(' ');
        }
        for (int c = 0; c < looks[0]; c++) {
            for (int what = 0; what < 10 + looks[1]; what = what == 5 ? 10 : what + 1) {
                all.append(x.of(c, what)).append(' ');
            }
        }
        for (int p = 0; p < looks[1]; p++) {
            for (int what = 0; what <= 6; what++) {
                all.append(x.who(p, what)).append(' ');
            }
        }
        for (int i = Math.max(0, looks[8] - 3); i < looks[8]; i++) {
            for (int what = 0; what <= 3; what++) {
                all.append(x.book(i, what)).append(' ');
            }
        }
        return all.toString();
    }

    final void dueSame(String what, String before, RockingPorch x) {
        due(what + " changes nothing", true, before.equals(seen(x)));
    }
}
