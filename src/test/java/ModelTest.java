import java.util.Random;

/** Drawn runs of calls, each answer and all that can be seen behind it held against Model. */
public final class ModelTest {
    private static final int RUNS = 1500;
    private static final int CALLS = 500;
    private static final String[] VALUES = {"run", "swing", "dear", "minds", "missed", "sat", "draught", "here", "minute"};
    private static final String[] SCRAPS = {" ", "\n", ";", "(", ")", "0", "9", "10000", "not ", "and ", "or ", "when ", "swings ",
        "at ", "person ", "minds ", "/0", "#", "Z", "+", "-", "*", "=", "<", "hush", "\t", "\u00ff"};

    private final Check check;
    private final Random random;
    private final int run;
    private final RockingPorch x = new RockingPorch();
    private final Model m = new Model();
    private int calls = 0;

    private ModelTest(Check check, int run) {
        this.check = check;
        this.run = run;
        this.random = new Random(run);
    }

    public static void main(String[] args) {
        Check check = new Check();
        for (int run = 0; run < RUNS; run++) {
            new ModelTest(check, run).go();
        }
        check.close("ModelTest");
    }

    private void go() {
        int chairs = random.nextInt(6);
        int persons = random.nextInt(7);
        for (int i = 0; i < chairs; i++) {
            due("chair", m.chair(i), x.chair(i));
        }
        for (int i = 0; i < persons; i++) {
            due("person", m.person(i), x.person(i));
        }
        for (int i = 0; i < CALLS; i++) {
            calls++;
            if (random.nextInt(4) == 0) {
                think();
            } else {
                happen();
            }
            seen();
        }
    }

    private void due(String call, int want, int got) {
        check.due("run " + run + " call " + calls + " " + call, want, got);
    }

    private static int n(boolean b) {
        return b ? 1 : 0;
    }

    private int upTo(int most) {
        return random.nextInt(most + 1);
    }

    /** Mostly 0 .. most, now and then a little or far beyond. */
    private int about(int most) {
        int[] far = {Integer.MIN_VALUE, Integer.MAX_VALUE, -1, -2, most + 1, -1 - most};
        return random.nextInt(12) == 0 ? far[random.nextInt(far.length)] : random.nextInt(most + 1);
    }

    private void happen() {
        switch (random.nextInt(20)) {
            case 0: {
                int v = about(9);
                if (random.nextInt(8) == 0) {
                    due("chair", m.chair(v), x.chair(v));
                }
                break;
            }
            case 1: {
                int v = about(9);
                if (random.nextInt(8) == 0) {
                    due("person", m.person(v), x.person(v));
                }
                break;
            }
            case 2: {
                int what = about(3);
                int who = about(5);
                int v = about(what == 2 ? 99 : 9);
                due("set", m.set(what, who, v), n(x.set(what, who, v)));
                break;
            }
            case 3: case 4: case 5: case 6: case 7: case 8: {
                int what = about(3);
                int who = about(5);
                int v = about(4);
                due("act " + what, m.act(what, who, v), n(x.act(what, who, v)));
                break;
            }
            case 9: case 10: {
                int v = random.nextInt(5) == 0 ? about(60) : 1 + upTo(2);
                due("minutes", m.minutes(v), x.minutes(v));
                break;
            }
            case 11: case 12: case 13: {
                int k = random.nextInt(4);
                text(k);
                break;
            }
            case 14: case 15: case 16:
                due("undo", m.undo(), n(x.undo()));
                break;
            case 17: {
                boolean taken = random.nextInt(2) == 0;
                if (random.nextInt(4) == 0) {
                    due("image " + taken, m.image(taken), n(x.image(taken)));
                }
                break;
            }
            case 18: {
                int v = random.nextInt();
                if (random.nextInt(4) == 0) {
                    due("state", m.state(v), x.state(v));
                }
                break;
            }
            default:
                tape();
                break;
        }
    }

    private void tape() {
        if (random.nextBoolean()) {
            int v = about(420);
            due("end", m.end(v), n(x.end(v)));
        } else {
            feed(random.nextInt(), 0x66616465, 0x73203b0a, random.nextInt(), -1);
        }
    }

    private void feed(int a, int b, int c, int d, int e) {
        due("feed", m.feed(a, b, c, d, e), x.feed(a, b, c, d, e));
    }

    private void text(int k) {
        StringBuilder text = new StringBuilder();
        int lines = random.nextInt(30) == 0 ? 15 + upTo(3) : upTo(5);
        for (int i = 0; i < lines; i++) {
            text.append(k == 0 ? lawLine() : k == 1 ? callsLine() : k == 2 ? houseLine() : kinLine());
        }
        if (random.nextInt(3) == 0 && text.length() > 0) {
            spoil(text);
        }
        if (random.nextInt(4) == 0) {
            for (int i = 0; i < text.length(); i++) {
                if (text.charAt(i) == ' ' && random.nextInt(3) == 0) {
                    text.setCharAt(i, '\n');
                }
            }
        }
        if (text.length() > 400) {
            text.setLength(400);
        }
        int[] words = Check.words(text.toString());
        if (random.nextInt(10) > 0) {
            due("end", m.end(0), n(x.end(0)));
        }
        for (int i = 0; i < words.length; i += 5) {
            feed(words[i], words[i + 1], words[i + 2], words[i + 3], words[i + 4]);
        }
        int cut = random.nextInt(20) == 0 ? about(text.length()) : text.length();
        due("end", m.end(cut), n(x.end(cut)));
        int told = random.nextInt(30) == 0 ? about(3) : k;
        due("text " + told + " " + text, m.text(told), x.text(told));
    }

    private void spoil(StringBuilder text) {
        for (int i = random.nextInt(2); i >= 0 && text.length() > 0; i--) {
            int at = random.nextInt(text.length());
            switch (random.nextInt(3)) {
                case 0:
                    text.deleteCharAt(at);
                    break;
                case 1:
                    text.insert(at, SCRAPS[random.nextInt(SCRAPS.length)]);
                    break;
                default:
                    text.replace(at, Math.min(text.length(), at + 1 + upTo(3)), SCRAPS[random.nextInt(SCRAPS.length)]);
                    break;
            }
        }
    }

    private String lawLine() {
        String[] words = {"swings ", "fades ", "jumps "};
        int word = random.nextInt(3);
        String e = word == 2 && random.nextBoolean() ? String.valueOf(300 + upTo(500)) : sum();
        return words[word] + e + (random.nextInt(3) > 0 ? " when " + condition(0) : "") + ";";
    }

    private String unit() {
        if (random.nextInt(40) == 0) {
            return "9999*9999*" + VALUES[random.nextInt(VALUES.length)];
        }
        return random.nextBoolean() ? VALUES[random.nextInt(VALUES.length)] : String.valueOf(upTo(random.nextInt(4) == 0 ? 999 : 12));
    }

    private String sum() {
        StringBuilder s = new StringBuilder(unit());
        for (int i = random.nextInt(4); i > 0; i--) {
            switch (random.nextInt(4)) {
                case 0: s.append("+").append(unit()); break;
                case 1: s.append(" - ").append(unit()); break;
                case 2: s.append("*").append(unit()); break;
                default: s.append("/").append(random.nextInt(30) == 0 ? 0 : 1 + upTo(9)); break;
            }
        }
        return s.toString();
    }

    private String condition(int depth) {
        StringBuilder s = new StringBuilder(single(depth));
        while (random.nextInt(3) == 0 && s.length() < 120) {
            s.append(random.nextBoolean() ? " and " : " or ").append(single(depth));
        }
        return s.toString();
    }

    private String single(int depth) {
        int deep = random.nextInt(60) == 0 ? 7 + upTo(2) : 0;
        if (deep > 0) {
            StringBuilder s = new StringBuilder("1=1");
            for (int i = 0; i < deep; i++) {
                s = random.nextBoolean() ? s.insert(0, "not ") : s.insert(0, "(").append(")");
            }
            return s.toString();
        }
        int kind = depth > 5 ? 9 : random.nextInt(10);
        if (kind < 2) {
            return "not " + single(depth + 1);
        }
        if (kind < 4) {
            return "(" + condition(depth + 1) + ")";
        }
        return sum() + "<=>".charAt(random.nextInt(3)) + sum();
    }

    private int soon() {
        return random.nextInt(20) == 0 ? upTo(1001) : m.porch.minute > 990 ? upTo(999) : m.porch.minute + upTo(5);
    }

    private int some(int count) {
        return random.nextInt(25) == 0 ? upTo(15) : upTo(Math.max(0, count - 1));
    }

    private String callsLine() {
        String[] what = {"sit ", "sit ", "rise", "go", "come"};
        int k = random.nextInt(what.length);
        return "at " + soon() + " person " + some(m.porch.persons.size()) + " " + what[k]
                + (k < 2 ? String.valueOf(some(m.porch.chairs.size())) : "") + ";";
    }

    private String houseLine() {
        String[] what = {" hush", " cat " + some(m.porch.chairs.size()), " cat " + some(m.porch.chairs.size()), " draught " + upTo(9)};
        return "at " + soon() + what[random.nextInt(4)] + ";";
    }

    private String kinLine() {
        return "person " + some(m.porch.persons.size()) + " minds " + some(m.porch.persons.size()) + ";";
    }

    private void think() {
        int a = about(6);
        int b = about(6);
        int what = about(1);
        switch (random.nextInt(22)) {
            case 0: due("tick", m.tick(a, b), x.tick(a, b)); break;
            case 1: {
                int time = 1 + upTo(12);
                int rest = upTo(time);
                due("tick", m.tick(rest, time), x.tick(rest, time));
                break;
            }
            case 2: due("ticks " + what, m.ticks(what), x.ticks(what)); break;
            case 3: due("apart", m.apart(a, b), x.apart(a, b)); break;
            case 4: {
                int n = about(6);
                due("seated " + n + " " + what, m.seated(n, what), x.seated(n, what));
                break;
            }
            case 5: due("point", m.point(a, b), x.point(a, b)); break;
            case 6: {
                int px = about(20);
                int py = about(20);
                due("point", m.point(px, py), x.point(px, py));
                break;
            }
            case 7: {
                int k = about(2);
                due("line " + k, m.line(k), x.line(k));
                break;
            }
            case 8: {
                boolean is = random.nextInt(3) > 0;
                due("full", m.full(a, b, is), n(x.full(a, b, is)));
                break;
            }
            case 9: due("rug " + what, m.rug(what), x.rug(what)); break;
            case 10: case 11: {
                int order = order();
                due("stack " + order + " " + what, m.stack(order, what), x.stack(order, what));
                break;
            }
            case 12: {
                int w = random.nextBoolean() ? about(99) : 1 + upTo(30);
                due("weight", m.weight(w), x.weight(w));
                break;
            }
            case 13: {
                int s = about(100);
                due("trunks " + s + " " + what, m.trunks(s, what), x.trunks(s, what));
                break;
            }
            case 14: {
                int t = about(512);
                due("throwing " + t, m.throwing(t), x.throwing(t));
                break;
            }
            case 15: {
                int n = 1 << 1 + upTo(7);
                int p = random.nextInt(9) == 0 ? about(600) : n + random.nextInt(n);
                int q = random.nextInt(9) == 0 ? about(600) : n + random.nextInt(n);
                due("ahead " + p + " " + q, m.ahead(p, q, what), x.ahead(p, q, what));
                break;
            }
            case 16: {
                int t = about(720);
                due("hands " + t, m.hands(t, what), x.hands(t, what));
                break;
            }
            case 17: {
                int v = random.nextBoolean() ? about(60) : upTo(20);
                due("step", m.step(v), x.step(v));
                break;
            }
            case 18: due("steps " + what, m.steps(what), x.steps(what)); break;
            case 19: {
                int v = random.nextBoolean() ? about(40) : upTo(17);
                due("coin", m.coin(v), x.coin(v));
                break;
            }
            case 20: due("slide", m.slide(), x.slide()); break;
            default: {
                int k = about(2);
                due("fault", m.fault(k), x.fault(k));
                break;
            }
        }
    }

    private int order() {
        int n = 1 + upTo(7);
        StringBuilder digits = new StringBuilder();
        for (int i = 0; i < n; i++) {
            digits.insert(random.nextInt(i + 1), i);
        }
        if (random.nextInt(10) == 0) {
            digits.setCharAt(random.nextInt(n), (char) ('0' + upTo(9)));
        }
        return random.nextInt(15) == 0 ? random.nextInt() : Integer.parseInt("1" + digits);
    }

    /** All that can be asked without changing anything, a part of it each time. */
    private void seen() {
        for (int what = 0; what <= 14; what++) {
            due("look " + what, m.look(what), x.look(what));
        }
        due("fault 0", m.fault(0), x.fault(0));
        due("fault 1", m.fault(1), x.fault(1));
        int c = about(9);
        for (int what = -1; what <= 24; what++) {
            due("of " + c + " " + what, m.of(c, what), x.of(c, what));
        }
        int p = about(13);
        for (int what = -1; what <= 7; what++) {
            due("who " + p + " " + what, m.who(p, what), x.who(p, what));
        }
        int line = random.nextBoolean() ? about(150) : m.porch.book.size() - 1 - upTo(3);
        for (int what = -1; what <= 4; what++) {
            due("book " + line + " " + what, m.book(line, what), x.book(line, what));
        }
        if (random.nextInt(8) == 0) {
            int n = about(60);
            int what = about(3);
            due("goes " + n + " " + what, m.goes(n, what), x.goes(n, what));
            due("seat", m.seat(), x.seat());
        }
    }
}
