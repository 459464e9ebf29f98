import java.util.ArrayDeque;
import java.util.ArrayList;
import java.util.Collections;
import java.util.Deque;
import java.util.List;
import java.util.TreeSet;

/**
 * The document written a second time, as plainly as the Java library lets one: lists, trees, trying
 * everything out. ModelTest holds RockingPorch against it.
 */
final class Model {
    static final int NONE = -1;

    interface Number {
        int of(Ask ask);
    }

    interface Truth {
        boolean of(Ask ask);
    }

    record Ask(int run, int swing, int dear, int minds, int missed, int sat, int draught, int here, int minute) {
    }

    record LawLine(String word, Number worth, Truth when) {
    }

    record Line(int minute, String what, int who, int much) {
    }

    record Booked(int minute, int what, int who, int much) {
    }

    static final class Chair {
        int run;
        int swing = 0;
        int rocksFor = NONE;
        int taken = NONE;

        Chair copy() {
            Chair c = new Chair();
            c.run = run;
            c.swing = swing;
            c.rocksFor = rocksFor;
            c.taken = taken;
            return c;
        }

        void rock(int v) {
            swing = v;
            if (v == 0) {
                rocksFor = NONE;
            }
        }
    }

    static final class Person {
        int dear;
        int is = 1;
        int missed = 0;
        int sat = 0;

        Person copy() {
            Person p = new Person();
            p.dear = dear;
            p.is = is;
            p.missed = missed;
            p.sat = sat;
            return p;
        }
    }

    static final class Porch {
        List<Chair> chairs = new ArrayList<>();
        List<Person> persons = new ArrayList<>();
        List<Booked> book = new ArrayList<>();
        int draught = 0;
        int stilled = 0;
        int minute = 0;
        int state = 0;
        boolean thought = false;

        Porch copy() {
            Porch p = new Porch();
            chairs.forEach(c -> p.chairs.add(c.copy()));
            persons.forEach(c -> p.persons.add(c.copy()));
            p.book.addAll(book);
            p.draught = draught;
            p.stilled = stilled;
            p.minute = minute;
            p.state = state;
            return p;
        }

        int here() {
            return (int) persons.stream().filter(p -> p.is != 0).count();
        }
    }

    static final class Told {
        List<int[]> ticks = new ArrayList<>();
        List<int[]> couples = new ArrayList<>();
        List<int[]> points = new ArrayList<>();
        List<Integer> weights = new ArrayList<>();
        List<Integer> steps = new ArrayList<>();
        List<Integer> coins = new ArrayList<>();
        boolean[] full = new boolean[36];

        Told copy() {
            Told t = new Told();
            t.ticks.addAll(ticks);
            t.couples.addAll(couples);
            t.points.addAll(points);
            t.weights.addAll(weights);
            t.steps.addAll(steps);
            t.coins.addAll(coins);
            t.full = full.clone();
            return t;
        }
    }

    record Image(Porch porch, Told told, List<LawLine> law, List<Line> calls, List<Line> house, List<Line> kin) {
    }

    Porch porch = new Porch();
    Told told = new Told();
    List<LawLine> law = List.of();
    List<Line> calls = List.of();
    List<Line> house = List.of();
    List<Line> kin = List.of();
    Image image = null;
    final Deque<Porch> past = new ArrayDeque<>();
    final StringBuilder tape = new StringBuilder();
    int fault = 0;
    int place = NONE;

    private static boolean in(int v, int low, int high) {
        return low <= v && v <= high;
    }

    private void keep() {
        past.addLast(porch.copy());
        if (past.size() > 6) {
            past.removeFirst();
        }
    }

    private int number(boolean yes) {
        return yes ? 1 : 0;
    }

    // What is and goes on.

    int state(int v) {
        past.clear();
        int was = porch.state;
        porch.state = v;
        return was;
    }

    int chair(int run) {
        if (!in(run, 0, 9) || porch.chairs.size() == 10) {
            return NONE;
        }
        past.clear();
        Chair c = new Chair();
        c.run = run;
        porch.chairs.add(c);
        return porch.chairs.size() - 1;
    }

    int person(int dear) {
        if (!in(dear, 0, 9) || porch.persons.size() == 14) {
            return NONE;
        }
        past.clear();
        Person p = new Person();
        p.dear = dear;
        porch.persons.add(p);
        return porch.persons.size() - 1;
    }

    private boolean isChair(int c) {
        return in(c, 0, porch.chairs.size() - 1);
    }

    private boolean isPerson(int p) {
        return in(p, 0, porch.persons.size() - 1);
    }

    int set(int what, int who, int v) {
        if (what == 0 && isChair(who) && in(v, 0, 9)) {
            porch.chairs.get(who).run = v;
        } else if (what == 1 && isPerson(who) && in(v, 0, 9)) {
            porch.persons.get(who).dear = v;
        } else if (what == 2 && isChair(who) && porch.chairs.get(who).swing > 0 && in(v, 0, 99)) {
            porch.chairs.get(who).rock(v);
        } else if (what == 3 && in(v, 0, 9)) {
            porch.draught = v;
        } else {
            return 0;
        }
        past.clear();
        return 1;
    }

    int act(int what, int who, int v) {
        if (what == 0 && isPerson(who) && isChair(v) && porch.persons.get(who).is == 1
                && porch.chairs.get(v).taken == NONE && porch.chairs.get(v).swing == 0) {
            keep();
            sit(porch, who, v);
        } else if (what == 1 && isPerson(who) && porch.persons.get(who).is == 2) {
            keep();
            rise(porch, who);
        } else if (what == 2 && isChair(who) && porch.chairs.get(who).swing > 0) {
            keep();
            cat(porch, who);
        } else if (what == 3 && isChair(who) && porch.chairs.get(who).swing > 0) {
            keep();
            porch.chairs.get(who).rock(0);
        } else {
            return 0;
        }
        return 1;
    }

    private void write(Porch p, int what, int who, int much) {
        if (p.book.size() < 150) {
            p.book.add(new Booked(p.minute, what, who, much));
        }
    }

    private void sit(Porch p, int who, int c) {
        p.chairs.get(c).taken = who;
        p.persons.get(who).is = 2;
        p.persons.get(who).sat++;
        write(p, 0, who, c);
    }

    private void rise(Porch p, int who) {
        for (int c = 0; c < p.chairs.size(); c++) {
            if (p.chairs.get(c).taken == who) {
                p.chairs.get(c).taken = NONE;
                p.persons.get(who).is = 1;
                int far = ask(p, "swings", c, who);
                if (far > 0) {
                    p.chairs.get(c).swing = far;
                    p.chairs.get(c).rocksFor = who;
                }
                write(p, 2, who, far);
                return;
            }
        }
    }

    private void cat(Porch p, int c) {
        int jumps = ask(p, "jumps", c, p.chairs.get(c).rocksFor);
        boolean does;
        if (p.thought) {
            does = jumps >= 500;
        } else if (jumps == 0) {
            does = false;
        } else {
            p.state = (int) (p.state * 1664525L + 1013904223L);
            does = (p.state & 0xffffffffL) / 256 % 1000 < jumps;
        }
        if (does) {
            write(p, 5, c, p.chairs.get(c).swing);
            p.stilled++;
            p.chairs.get(c).rock(0);
        }
    }

    private int ask(Porch p, String word, int c, int who) {
        Chair chair = p.chairs.get(c);
        Person person = who == NONE ? new Person() : p.persons.get(who);
        int minds = 0;
        for (int i = 0; i < p.persons.size(); i++) {
            int one = i;
            if (p.persons.get(i).is != 0 && kin.stream().anyMatch(l -> l.who == one && l.much == who)) {
                minds++;
            }
        }
        Ask ask = new Ask(chair.run, chair.swing, person.dear, minds, person.missed, person.sat, p.draught, p.here(), p.minute);
        int v = switch (word) {
            case "swings" -> 10 * ask.dear + 5 * ask.minds;
            case "fades" -> 10 - ask.run - ask.draught;
            default -> 900 - 5 * ask.swing;
        };
        for (LawLine l : law) {
            if (l.word.equals(word) && l.when.of(ask)) {
                v = l.worth.of(ask);
                break;
            }
        }
        int most = word.equals("swings") ? 99 : word.equals("fades") ? 20 : 1000;
        return v < 0 ? 0 : v > most ? most : v;
    }

    private int minute(Porch p) {
        int none = 0;
        for (Line l : calls) {
            if (l.minute == p.minute) {
                Person one = p.persons.get(l.who);
                if (l.what.equals("sit") && one.is == 1) {
                    Chair c = p.chairs.get(l.much);
                    if (c.taken == NONE && c.swing == 0) {
                        sit(p, l.who, l.much);
                    } else {
                        none++;
                        write(p, 1, l.who, l.much);
                    }
                }
                if (l.what.equals("rise") || l.what.equals("go")) {
                    if (one.is == 2) {
                        rise(p, l.who);
                    }
                    if (l.what.equals("go") && one.is == 1) {
                        one.is = 0;
                        write(p, 3, l.who, p.here());
                    }
                }
                if (l.what.equals("come") && one.is == 0) {
                    one.is = 1;
                    write(p, 4, l.who, p.here());
                }
            }
        }
        for (Line l : house) {
            if (l.minute == p.minute) {
                if (l.what.equals("cat") && p.chairs.get(l.much).swing > 0) {
                    cat(p, l.much);
                }
                if (l.what.equals("draught")) {
                    p.draught = l.much;
                }
                if (l.what.equals("hush")) {
                    p.chairs.forEach(c -> c.rock(Math.floorDiv(c.swing, 2)));
                }
            }
        }
        for (int c = 0; c < p.chairs.size(); c++) {
            Chair chair = p.chairs.get(c);
            if (chair.swing > 0) {
                p.persons.get(chair.rocksFor).missed++;
                chair.rock(Math.max(0, chair.swing - ask(p, "fades", c, chair.rocksFor)));
            }
        }
        p.minute++;
        return none;
    }

    int minutes(int n) {
        if (!in(n, 1, 60) || porch.minute + n > 9999) {
            return NONE;
        }
        int none = 0;
        for (int i = 0; i < n; i++) {
            keep();
            none += minute(porch);
        }
        return none;
    }

    // The tape and the texts.

    int feed(int a, int b, int c, int d, int e) {
        if (tape.length() + 20 > 400) {
            return NONE;
        }
        int[] all = {a, b, c, d, e};
        for (int v : all) {
            for (byte x : new byte[] {(byte) (v >> 24), (byte) (v >> 16), (byte) (v >> 8), (byte) v}) {
                tape.append((char) (x & 255));
            }
        }
        return tape.length();
    }

    int end(int n) {
        if (!in(n, 0, tape.length())) {
            return 0;
        }
        tape.setLength(n);
        return 1;
    }

    static final class Fault extends RuntimeException {
        final int what;
        final int place;

        Fault(int what, int place) {
            this.what = what;
            this.place = place;
        }
    }

    /** Reads a text sign by sign, without tokens laid out beforehand. */
    private final class Reading {
        final String s;
        int at = 0;

        Reading(String s) {
            this.s = s;
        }

        void blanks() {
            while (at < s.length() && (s.charAt(at) == ' ' || s.charAt(at) == '\n')) {
                at++;
            }
        }

        /** The next token without going on; "" at the end. */
        String peek() {
            blanks();
            if (at == s.length()) {
                return "";
            }
            java.util.regex.Matcher m = java.util.regex.Pattern.compile("[a-zA-Z]+|[0-9]+|(?s).").matcher(s);
            m.find(at);
            return m.group();
        }

        Fault wrong(int what) {
            blanks();
            return new Fault(what, at);
        }

        boolean take(String token) {
            if (!peek().equals(token)) {
                return false;
            }
            at += token.length();
            return true;
        }

        void need(String token) {
            if (!take(token)) {
                throw wrong(1);
            }
        }

        String one(String... of) {
            for (String token : of) {
                if (take(token)) {
                    return token;
                }
            }
            throw wrong(1);
        }

        boolean isNumber() {
            return peek().matches("[0-9]{1,4}");
        }

        int need(int least, int most, int but) {
            if (!isNumber()) {
                throw wrong(1);
            }
            int v = Integer.parseInt(peek());
            if (v < least || v > most || v == but) {
                throw wrong(2);
            }
            at += peek().length();
            return v;
        }

        boolean more(int lines, String... keywords) {
            String token = peek();
            if (token.isEmpty()) {
                return false;
            }
            if (!List.of(keywords).contains(token)) {
                throw wrong(1);
            }
            if (lines == 16) {
                throw wrong(3);
            }
            return true;
        }

        List<LawLine> law() {
            List<LawLine> lines = new ArrayList<>();
            while (more(lines.size(), "swings", "fades", "jumps")) {
                String word = one("swings", "fades", "jumps");
                Number e = sum();
                Truth b = take("when") ? either(0) : ask -> true;
                need(";");
                lines.add(new LawLine(word, e, b));
            }
            return lines;
        }

        Number sum() {
            Number all = product();
            while (true) {
                Number left = all;
                if (take("+")) {
                    Number right = product();
                    all = ask -> left.of(ask) + right.of(ask);
                } else if (take("-")) {
                    Number right = product();
                    all = ask -> left.of(ask) - right.of(ask);
                } else {
                    return all;
                }
            }
        }

        Number product() {
            Number all = unit();
            while (true) {
                Number left = all;
                if (take("*")) {
                    Number right = unit();
                    all = ask -> left.of(ask) * right.of(ask);
                } else if (take("/")) {
                    int part = need(0, 9999, 0);
                    all = ask -> left.of(ask) / part;
                } else {
                    return all;
                }
            }
        }

        Number unit() {
            if (isNumber()) {
                int v = need(0, 9999, NONE);
                return ask -> v;
            }
            return switch (one("run", "swing", "dear", "minds", "missed", "sat", "draught", "here", "minute")) {
                case "run" -> Ask::run;
                case "swing" -> Ask::swing;
                case "dear" -> Ask::dear;
                case "minds" -> Ask::minds;
                case "missed" -> Ask::missed;
                case "sat" -> Ask::sat;
                case "draught" -> Ask::draught;
                case "here" -> Ask::here;
                default -> Ask::minute;
            };
        }

        Truth either(int open) {
            Truth left = both(open);
            if (!take("or")) {
                return left;
            }
            Truth right = either(open);
            return ask -> left.of(ask) || right.of(ask);
        }

        Truth both(int open) {
            Truth left = one(open);
            if (!take("and")) {
                return left;
            }
            Truth right = both(open);
            return ask -> left.of(ask) && right.of(ask);
        }

        Truth one(int open) {
            String first = peek();
            if ((first.equals("not") || first.equals("(")) && open == 8) {
                throw wrong(3);
            }
            if (take("not")) {
                Truth inner = one(open + 1);
                return ask -> !inner.of(ask);
            }
            if (take("(")) {
                Truth inner = either(open + 1);
                need(")");
                return inner;
            }
            Number a = sum();
            String sign = one("<", "=", ">");
            Number b = sum();
            return switch (sign) {
                case "<" -> ask -> a.of(ask) < b.of(ask);
                case "=" -> ask -> a.of(ask) == b.of(ask);
                default -> ask -> a.of(ask) > b.of(ask);
            };
        }

        List<Line> calls() {
            List<Line> lines = new ArrayList<>();
            while (more(lines.size(), "at")) {
                need("at");
                int minute = need(0, 999, NONE);
                need("person");
                int who = need(0, porch.persons.size() - 1, NONE);
                String what = one("sit", "rise", "go", "come");
                int chair = what.equals("sit") ? need(0, porch.chairs.size() - 1, NONE) : 0;
                need(";");
                lines.add(new Line(minute, what, who, chair));
            }
            return lines;
        }

        List<Line> house() {
            List<Line> lines = new ArrayList<>();
            while (more(lines.size(), "at")) {
                need("at");
                int minute = need(0, 999, NONE);
                String what = one("cat", "draught", "hush");
                int much = what.equals("hush") ? 0 : need(0, what.equals("cat") ? porch.chairs.size() - 1 : 9, NONE);
                need(";");
                lines.add(new Line(minute, what, 0, much));
            }
            return lines;
        }

        List<Line> kin() {
            List<Line> lines = new ArrayList<>();
            while (more(lines.size(), "person")) {
                need("person");
                int who = need(0, porch.persons.size() - 1, NONE);
                need("minds");
                int whom = need(0, porch.persons.size() - 1, who);
                need(";");
                lines.add(new Line(0, "minds", who, whom));
            }
            return lines;
        }
    }

    int text(int k) {
        String s = tape.toString();
        tape.setLength(0);
        fault = 0;
        place = NONE;
        Reading reading = new Reading(s);
        try {
            switch (k) {
                case 0:
                    law = reading.law();
                    return law.size();
                case 1:
                    calls = reading.calls();
                    past.clear();
                    return calls.size();
                case 2:
                    house = reading.house();
                    past.clear();
                    return house.size();
                case 3:
                    kin = reading.kin();
                    return kin.size();
                default:
                    return NONE;
            }
        } catch (Fault f) {
            fault = f.what;
            place = f.place;
            return NONE;
        }
    }

    int fault(int what) {
        return what == 0 ? fault : what == 1 ? place : NONE;
    }

    // What is asked.

    int of(int chair, int what) {
        if (!isChair(chair)) {
            return -2;
        }
        Chair c = porch.chairs.get(chair);
        if (what >= 10) {
            return isPerson(what - 10) ? ask(porch, "swings", chair, what - 10) : -2;
        }
        return switch (what) {
            case 0 -> c.run;
            case 1 -> c.swing;
            case 2 -> c.rocksFor;
            case 3 -> c.taken;
            case 4 -> ask(porch, "fades", chair, c.rocksFor);
            case 5 -> ask(porch, "jumps", chair, c.rocksFor);
            default -> -2;
        };
    }

    int who(int person, int what) {
        if (!isPerson(person)) {
            return -2;
        }
        Person p = porch.persons.get(person);
        return switch (what) {
            case 0 -> p.dear;
            case 1 -> p.is;
            case 2 -> p.missed;
            case 3 -> p.sat;
            case 4 -> {
                int found = NONE;
                for (int c = 0; c < porch.chairs.size(); c++) {
                    found = porch.chairs.get(c).taken == person ? c : found;
                }
                yield found;
            }
            case 5 -> chairSet(c -> c.swing > 0 && c.rocksFor == person);
            case 6 -> kin.stream().filter(l -> l.much == person).mapToInt(l -> 1 << l.who).reduce(0, (a, b) -> a | b);
            default -> -2;
        };
    }

    private int chairSet(java.util.function.Predicate<Chair> is) {
        int set = 0;
        for (int c = 0; c < porch.chairs.size(); c++) {
            set += is.test(porch.chairs.get(c)) ? 1 << c : 0;
        }
        return set;
    }

    int book(int i, int what) {
        if (!in(i, 0, porch.book.size() - 1)) {
            return NONE;
        }
        Booked b = porch.book.get(i);
        return what == 0 ? b.minute : what == 1 ? b.what : what == 2 ? b.who : what == 3 ? b.much : NONE;
    }

    private static int free(Porch p) {
        return (int) p.chairs.stream().filter(c -> c.swing == 0 && c.taken == NONE).count();
    }

    private Porch inThought() {
        Porch p = porch.copy();
        p.thought = true;
        return p;
    }

    int goes(int n, int what) {
        if (!in(n, 1, 60) || !in(what, 0, 3)) {
            return NONE;
        }
        Porch p = inThought();
        for (int i = 0; i < n; i++) {
            minute(p);
        }
        return switch (what) {
            case 0 -> p.chairs.stream().mapToInt(c -> c.swing).sum();
            case 1 -> p.persons.stream().mapToInt(c -> c.missed).sum();
            case 2 -> p.persons.stream().mapToInt(c -> c.sat).sum();
            default -> free(p);
        };
    }

    int seat() {
        Porch p = inThought();
        for (int i = 0; i < 61; i++) {
            if (free(p) > 0) {
                return i;
            }
            minute(p);
        }
        return NONE;
    }

    int undo() {
        if (past.isEmpty()) {
            return 0;
        }
        porch = past.removeLast();
        return 1;
    }

    int image(boolean taken) {
        if (taken) {
            image = new Image(porch.copy(), told.copy(), law, calls, house, kin);
            return 1;
        }
        if (image == null) {
            return 0;
        }
        porch = image.porch.copy();
        told = image.told.copy();
        law = image.law;
        calls = image.calls;
        house = image.house;
        kin = image.kin;
        past.clear();
        return 1;
    }

    int look(int what) {
        return switch (what) {
            case 0 -> porch.chairs.size();
            case 1 -> porch.persons.size();
            case 2 -> chairSet(c -> c.swing > 0);
            case 3 -> chairSet(c -> c.swing == 0 && c.taken == NONE);
            case 4 -> {
                int set = 0;
                for (int i = 0; i < porch.persons.size(); i++) {
                    set += porch.persons.get(i).is == 0 ? 1 << i : 0;
                }
                yield set;
            }
            case 5 -> porch.draught;
            case 6 -> porch.stilled;
            case 7 -> porch.minute;
            case 8 -> porch.book.size();
            case 9 -> porch.state;
            case 10 -> law.size();
            case 11 -> calls.size();
            case 12 -> house.size();
            case 13 -> kin.size();
            case 14 -> past.size();
            default -> -100000;
        };
    }

    // What is told for thought, and thought.

    int tick(int r, int m) {
        if (m == NONE) {
            told.ticks.clear();
            return 0;
        }
        if (!in(m, 1, 12) || !in(r, 0, m - 1) || told.ticks.size() == 4) {
            return NONE;
        }
        told.ticks.add(new int[] {r, m});
        return told.ticks.size();
    }

    int ticks(int what) {
        int first = nextTick(0);
        return what == 0 ? first : what == 1 && first != NONE ? nextTick(first + 1) - first : NONE;
    }

    private int nextTick(int from) {
        for (int t = from; t < from + 30000; t++) {
            int now = t;
            if (told.ticks.stream().allMatch(k -> now % k[1] == k[0])) {
                return t;
            }
        }
        return NONE;
    }

    int apart(int a, int b) {
        if (a == NONE) {
            told.couples.clear();
            return 0;
        }
        if (!in(a, 0, 6) || !in(b, 0, 6) || a == b || told.couples.size() == 10) {
            return NONE;
        }
        told.couples.add(new int[] {a, b});
        return told.couples.size();
    }

    int seated(int n, int what) {
        return in(n, 1, 7) && in(what, 0, 1) ? orders(new ArrayList<>(), n, what == 1) : NONE;
    }

    private int orders(List<Integer> row, int n, boolean ring) {
        if (row.size() == n) {
            for (int i = 0; i + 1 < n; i++) {
                if (wont(row.get(i), row.get(i + 1))) {
                    return 0;
                }
            }
            return number(!ring || !wont(row.get(n - 1), row.get(0)));
        }
        int all = 0;
        for (int i = 0; i < n; i++) {
            if (!row.contains(i)) {
                row.add(i);
                all += orders(row, n, ring);
                row.remove(row.size() - 1);
            }
        }
        return all;
    }

    private boolean wont(int a, int b) {
        return told.couples.stream().anyMatch(c -> c[0] == a && c[1] == b || c[0] == b && c[1] == a);
    }

    int point(int x, int y) {
        if (x == NONE) {
            told.points.clear();
            return 0;
        }
        if (!in(x, 0, 20) || !in(y, 0, 20) || told.points.size() == 8
                || told.points.stream().anyMatch(p -> p[0] == x && p[1] == y)) {
            return NONE;
        }
        told.points.add(new int[] {x, y});
        return told.points.size();
    }

    int line(int what) {
        int n = told.points.size();
        int most = Math.min(n, 2);
        int least = NONE;
        int greatest = NONE;
        for (int set = 0; set < 1 << n; set++) {
            List<int[]> some = new ArrayList<>();
            for (int i = 0; i < n; i++) {
                if ((set >> i & 1) == 1) {
                    some.add(told.points.get(i));
                }
            }
            if (some.size() == 2) {
                int d = (int) (Math.pow(some.get(0)[0] - some.get(1)[0], 2) + Math.pow(some.get(0)[1] - some.get(1)[1], 2));
                least = least == NONE ? d : Math.min(least, d);
                greatest = Math.max(greatest, d);
            }
            if (some.size() > most && onOneLine(some)) {
                most = some.size();
            }
        }
        return what == 0 ? most : what == 1 ? least : what == 2 ? greatest : NONE;
    }

    private static boolean onOneLine(List<int[]> points) {
        for (int[] a : points) {
            for (int[] b : points) {
                for (int[] c : points) {
                    if (a[0] * (b[1] - c[1]) + b[0] * (c[1] - a[1]) + c[0] * (a[1] - b[1]) != 0) {
                        return false;
                    }
                }
            }
        }
        return true;
    }

    int full(int x, int y, boolean is) {
        if (!in(x, 0, 5) || !in(y, 0, 5)) {
            return 0;
        }
        told.full[x * 6 + y] = is;
        return 1;
    }

    int rug(int what) {
        int many = 0;
        int most = 0;
        for (int a = 0; a < 6; a++) {
            for (int b = a; b < 6; b++) {
                for (int c = 0; c < 6; c++) {
                    for (int d = c; d < 6; d++) {
                        if (isBare(a, b, c, d)) {
                            many++;
                            most = Math.max(most, (b - a + 1) * (d - c + 1));
                        }
                    }
                }
            }
        }
        return what == 0 ? many : what == 1 ? most : NONE;
    }

    private boolean isBare(int a, int b, int c, int d) {
        for (int x = a; x <= b; x++) {
            for (int y = c; y <= d; y++) {
                if (told.full[x * 6 + y]) {
                    return false;
                }
            }
        }
        return true;
    }

    int stack(int order, int what) {
        String s = String.valueOf(order);
        if (!s.matches("1[0-7]{1,8}") || !in(what, 0, 1)) {
            return NONE;
        }
        List<Integer> digits = new ArrayList<>();
        s.substring(1).chars().forEach(c -> digits.add(c - '0'));
        List<Integer> sorted = new ArrayList<>(digits);
        Collections.sort(sorted);
        for (int i = 0; i < sorted.size(); i++) {
            if (sorted.get(i) != i) {
                return NONE;
            }
        }
        return what == 0 ? number(letsOut(digits, 0, 0, new ArrayList<>())) : rows(digits, 0, new ArrayList<>(), 9);
    }

    /** Each time both is tried, to lay one on and to take one off. */
    private static boolean letsOut(List<Integer> want, int out, int laid, List<Integer> stack) {
        if (out == want.size()) {
            return true;
        }
        if (laid < want.size()) {
            List<Integer> more = new ArrayList<>(stack);
            more.add(laid);
            if (letsOut(want, out, laid + 1, more)) {
                return true;
            }
        }
        if (!stack.isEmpty() && stack.get(stack.size() - 1).equals(want.get(out))) {
            return letsOut(want, out + 1, laid, stack.subList(0, stack.size() - 1));
        }
        return false;
    }

    /** Each number is tried in each row that it may stand in, and in a new one. */
    private static int rows(List<Integer> digits, int at, List<Integer> ends, int best) {
        if (at == digits.size() || ends.size() >= best) {
            return Math.min(best, ends.size());
        }
        int found = best;
        for (int i = 0; i <= ends.size(); i++) {
            if (i == ends.size() || ends.get(i) < digits.get(at)) {
                List<Integer> more = new ArrayList<>(ends);
                if (i == ends.size()) {
                    more.add(digits.get(at));
                } else {
                    more.set(i, digits.get(at));
                }
                found = Math.min(found, rows(digits, at + 1, more, found));
            }
        }
        return found;
    }

    private static int tell(List<Integer> list, int v, int low, int high, int most, boolean unlike) {
        if (v == NONE) {
            list.clear();
            return 0;
        }
        if (!in(v, low, high) || list.size() == most || unlike && list.contains(v)) {
            return NONE;
        }
        list.add(v);
        return list.size();
    }

    int weight(int v) {
        return tell(told.weights, v, 1, 99, 9, false);
    }

    int trunks(int s, int what) {
        if (!in(s, 1, 99) || !in(what, 0, 1) || told.weights.stream().anyMatch(w -> w > s)) {
            return NONE;
        }
        if (what == 1) {
            return fewest(s, 0, new ArrayList<>(), 10);
        }
        List<Integer> trunks = new ArrayList<>();
        for (int w : told.weights) {
            int i = 0;
            while (i < trunks.size() && trunks.get(i) + w > s) {
                i++;
            }
            if (i == trunks.size()) {
                trunks.add(w);
            } else {
                trunks.set(i, trunks.get(i) + w);
            }
        }
        return trunks.size();
    }

    private int fewest(int s, int at, List<Integer> trunks, int best) {
        if (trunks.size() >= best || at == told.weights.size()) {
            return Math.min(best, trunks.size());
        }
        int found = best;
        int w = told.weights.get(at);
        for (int i = 0; i <= trunks.size(); i++) {
            List<Integer> more = new ArrayList<>(trunks);
            if (i == trunks.size()) {
                more.add(w);
            } else if (more.get(i) + w <= s) {
                more.set(i, more.get(i) + w);
            } else {
                continue;
            }
            found = Math.min(found, fewest(s, at + 1, more, found));
        }
        return found;
    }

    private static String row(int a) {
        return Integer.toBinaryString(a).substring(1);
    }

    private static int fit(String a, String b) {
        int sum = 0;
        for (int k = 1; k <= a.length(); k++) {
            if (a.substring(a.length() - k).equals(b.substring(0, k))) {
                sum += (int) Math.pow(2, k);
            }
        }
        return sum;
    }

    int throwing(int a) {
        return in(a, 2, 511) ? fit(row(a), row(a)) : NONE;
    }

    int ahead(int a, int b, int what) {
        if (!in(a, 2, 511) || !in(b, 2, 511) || !in(what, 0, 1) || a == b || row(a).length() != row(b).length()) {
            return NONE;
        }
        int x = fit(row(b), row(b)) - fit(row(b), row(a));
        int y = fit(row(a), row(a)) - fit(row(a), row(b));
        int common = java.math.BigInteger.valueOf(x).gcd(java.math.BigInteger.valueOf(x + y)).intValue();
        return what == 0 ? x / common : (x + y) / common;
    }

    private static int hand(int t) {
        int d = Math.abs(12 * t % 720 - t % 720);
        return Math.min(d, 720 - d);
    }

    int hands(int t, int what) {
        if (!in(t, 0, 719)) {
            return NONE;
        }
        int many = 0;
        for (int i = 0; i <= t; i++) {
            many += number(hand(i) <= hand(t));
        }
        return what == 0 ? hand(t) : what == 1 ? many : NONE;
    }

    int step(int v) {
        return tell(told.steps, v, 0, 60, 10, true);
    }

    int steps(int what) {
        int n = told.steps.size();
        int threes = 0;
        int most = 0;
        for (int set = 0; set < 1 << n; set++) {
            TreeSet<Integer> some = new TreeSet<>();
            for (int i = 0; i < n; i++) {
                if ((set >> i & 1) == 1) {
                    some.add(told.steps.get(i));
                }
            }
            List<Integer> row = new ArrayList<>(some);
            boolean even = true;
            for (int i = 2; i < row.size(); i++) {
                even = even && row.get(i) - row.get(i - 1) == row.get(1) - row.get(0);
            }
            threes += number(even && row.size() == 3);
            most = even ? Math.max(most, row.size()) : most;
        }
        return what == 0 ? threes : what == 1 ? most : NONE;
    }

    int coin(int v) {
        return tell(told.coins, v, 0, 40, 6, true);
    }

    private static final int PLAYED_OUT = 18;
    private static final boolean[] WON = playOut();

    /** Of each set of coins below square 18: whether who moves wins. */
    private static boolean[] playOut() {
        boolean[] won = new boolean[1 << PLAYED_OUT];
        for (int set = 0; set < won.length; set++) {
            for (int c = 0; c < PLAYED_OUT && !won[set]; c++) {
                if ((set >> c & 1) == 1) {
                    for (int to = c - 1; to >= 0 && (set >> to & 1) == 0; to--) {
                        won[set] = won[set] || !won[set ^ 1 << c ^ 1 << to];
                    }
                }
            }
        }
        return won;
    }

    int slide() {
        TreeSet<Integer> coins = new TreeSet<>(told.coins);
        for (int c : coins) {
            for (int by = 1; by <= c && !coins.contains(c - by); by++) {
                TreeSet<Integer> moved = new TreeSet<>(coins);
                moved.remove(c);
                moved.add(c - by);
                if (isLost(moved)) {
                    return c * 100 + by;
                }
            }
        }
        return NONE;
    }

    private static boolean isLost(TreeSet<Integer> coins) {
        if (coins.last() < PLAYED_OUT) {
            return !WON[coins.stream().mapToInt(c -> 1 << c).sum()];
        }
        int nim = 0;
        TreeSet<Integer> left = new TreeSet<>(coins);
        while (!left.isEmpty()) {
            int high = left.pollLast();
            int low = left.isEmpty() ? -1 : left.pollLast();
            nim ^= high - low - 1;
        }
        return nim == 0;
    }
}
