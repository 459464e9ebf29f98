/** Of minutes, times, seats and points in thought (Terms 4 up to LINE; promises 15 to 22). */
final class ThoughtBounds extends Bounds {
    private static final int[] FACTORIALS = {1, 1, 2, 6, 24, 120, 720, 5040};

    private static final int THOUGHTS = 15;

    ThoughtBounds(Check check, Sentences sentences) {
        super(check, sentences);
    }

    void all() {
        in("Terms");
        nothingStays();
        nothingStaysBetween();
        noDraws();
        howFar();
        sums();
        seatWithin();
        ticksTold();
        ticksLeast();
        ticksAgain();
        rowOfSeats();
        ringOfSeats();
        pointsTold();
        lines();
        in("Promise 15: goes");
        goes();
        in("Promise 16: seat");
        seat();
        in("Promise 17: tick");
        tick();
        in("Promise 18: ticks");
        ticks();
        in("Promise 19: apart");
        apart();
        in("Promise 20: seated");
        seated();
        in("Promise 21: point");
        point();
        in("Promise 22: line");
        line();
    }

    private void nothingStays() {
        of("IN THOUGHT (nothing of it stays;");
        RockingPorch x = rocking(60);
        law(x, "fades 1; jumps 1000 when minute > 1; jumps 500;");
        calls(x, "at 0 person 1 sit 1; at 1 person 2 go; at 2 person 1 rise; at 3 person 1 sit 0;");
        house(x, "at 1 draught 5; at 2 hush; at 3 cat 0;");
        x.act(0, 2, 1);
        String before = seen(x);
        for (int what = 0; what <= 3; what++) {
            x.goes(60, what);
            x.goes(2, what);
        }
        x.seat();
        dueSame("thought", before, x);
        due("what was done is undone", true, x.undo());
        due("the latest", 1, x.who(2, 1));
    }

    /** One thought behind another leaves nothing behind for it. */
    private void nothingStaysBetween() {
        RockingPorch x = rocking(60);
        BackBounds.think(x);
        int[] first = new int[THOUGHTS];
        for (int i = 0; i < THOUGHTS; i++) {
            RockingPorch y = rocking(60);
            BackBounds.think(y);
            first[i] = thought(y, i);
        }
        for (int i = 0; i < THOUGHTS; i++) {
            for (int before = 0; before < THOUGHTS; before++) {
                thought(x, before);
                due("thought " + i + " behind " + before, first[i], thought(x, i));
            }
        }
        RockingPorch z = rocking(60);
        BackBounds.think(z);
        z.coin(NONE);
        z.coin(39);
        z.coin(40);
        for (int before = 0; before < THOUGHTS; before++) {
            thought(z, before);
            due("a lost game behind " + before, NONE, z.slide());
        }
    }

    private static int thought(RockingPorch x, int i) {
        switch (i) {
            case 0:
                return x.ticks(0);
            case 1:
                return x.seated(7, 0);
            case 2:
                return x.seated(6, 1);
            case 3:
                return x.line(0);
            case 4:
                return x.line(1);
            case 5:
                return x.rug(0);
            case 6:
                return x.stack(176543210, 0);
            case 7:
                return x.stack(12031, 1);
            case 8:
                return x.stack(1012, 0);
            case 9:
                return x.trunks(45, 0);
            case 10:
                return x.trunks(50, 1);
            case 11:
                return x.steps(1);
            case 12:
                return x.slide();
            case 13:
                return x.goes(10, 0);
            default:
                return x.seat();
        }
    }

    private void noDraws() {
        of("no DRAWS: the cat jumps, if jumps is 500 at least).");
        int[] states = {0, 1, -1, 12345, LOW};
        int[] jumps = {0, 1, 499, 500, 501, 1000};
        for (int state : states) {
            RockingPorch x = rocking(30);
            house(x, "at 0 cat 0; at 0 cat 1;");
            x.state(state);
            for (int likely : jumps) {
                law(x, "fades 0; jumps " + likely + ";");
                due("swing, jumps " + likely, likely < 500 ? 30 : 0, x.goes(1, 0));
                due("free, jumps " + likely, likely < 500 ? 1 : 2, x.goes(1, 3));
            }
            due("no draw", state, x.look(9));
        }
        RockingPorch y = rocking(30);
        y.act(0, 1, 1);
        house(y, "at 3 cat 0;");
        law(y, "fades 0; jumps 499;");
        due("a seat by the cat, 499", NONE, y.seat());
        law(y, "fades 0; jumps 500;");
        due("a seat by the cat, 500", 4, y.seat());
    }

    private void howFar() {
        of("GOES for n (1 .. 60) MINUTES:");
        RockingPorch x = rocking(99);
        law(x, "fades 1;");
        int[] n = {1, 2, 59, 60};
        for (int minutes : n) {
            due("for " + minutes, 99 - minutes, x.goes(minutes, 0));
        }
        due("for 0", NONE, x.goes(0, 0));
        due("for 61", NONE, x.goes(61, 0));
        x.minutes(10);
        due("as it is", 29, x.goes(60, 0));
    }

    private void sums() {
        of("SWING of all,");
        RockingPorch x = porch("4444", "999");
        law(x, "fades 2 when run = 4; fades 0;");
        due("of none that rocks", 0, x.goes(1, 0));
        for (int c = 0; c < 3; c++) {
            x.act(0, c, c);
            x.act(1, c, 0);
        }
        x.set(2, 0, 10);
        x.set(2, 1, 1);
        x.set(2, 2, 99);
        due("for 1", 8 + 97, x.goes(1, 0));
        due("for 5", 89, x.goes(5, 0));
        of("MISSED of all,");
        due("for 1", 3, x.goes(1, 1));
        due("for 5", 5 + 1 + 5, x.goes(5, 1));
        due("for 60", 5 + 1 + 50, x.goes(60, 1));
        x.minutes(2);
        due("with those before", 5 + 4, x.goes(2, 1));
        calls(x, "at 2 person 2 go;");
        due("one away, too", 5 + 4, x.goes(2, 1));
        of("SAT of all,");
        due("before", 3, x.goes(1, 2));
        calls(x, "at 2 person 0 sit 3; at 3 person 0 go; at 3 person 1 sit 0; at 4 person 1 sit 1; at 4 person 0 come;");
        due("for 1", 4, x.goes(1, 2));
        due("who finds no seat has not sat", 4, x.goes(2, 2));
        due("for 3", 5, x.goes(3, 2));
        of("how many CHAIRS are free (still, not TAKEN) then.");
        RockingPorch y = porch("4444", "311");
        due("all", 4, y.goes(1, 3));
        y.act(0, 0, 0);
        y.act(1, 0, 0);
        y.set(2, 0, 3);
        y.act(0, 1, 1);
        law(y, "fades 1;");
        due("not one that rocks or is taken", 2, y.goes(1, 3));
        due("not yet", 2, y.goes(2, 3));
        due("three behind 3", 3, y.goes(3, 3));
        calls(y, "at 4 person 2 sit 2;");
        due("three behind 4", 3, y.goes(4, 3));
        due("two behind 5", 2, y.goes(5, 3));
    }

    private void seatWithin() {
        of("SEAT: behind how many MINUTES a CHAIR is free (0: now;");
        RockingPorch x = porch("4", "31");
        due("now", 0, x.seat());
        x.act(0, 0, 0);
        x.act(1, 0, 0);
        law(x, "fades 1;");
        int[] swings = {1, 2, 59, 60};
        for (int swing : swings) {
            x.set(2, 0, swing);
            due("rocks so far: " + swing, swing, x.seat());
        }
        calls(x, "at 2 person 0 sit 0; at 59 person 1 sit 0; at 60 person 1 sit 0;");
        x.set(2, 0, 3);
        due("ahead of who takes it", 3, x.seat());
        of("NONE: not within 60,");
        x.set(2, 0, 61);
        due("behind 61", NONE, x.seat());
        x.set(2, 0, 99);
        due("behind 99", NONE, x.seat());
        x.minutes(39);
        due("60 of them are left", 60, x.seat());
        x.set(2, 0, 0);
        due("stilled", 0, x.seat());
        x.act(0, 0, 0);
        due("taken", NONE, x.seat());
        RockingPorch y = porch("49", "31");
        y.act(0, 0, 0);
        y.act(0, 1, 1);
        law(y, "swings 0;");
        calls(y, "at 59 person 0 rise;");
        due("risen in the sixtieth", 60, y.seat());
        calls(y, "at 60 person 0 rise;");
        due("risen in the next", NONE, y.seat());
        of("no CHAIRS).");
        due("a new porch", NONE, new RockingPorch().seat());
        due("persons alone", NONE, porch("", "31").seat());
    }

    private void ticksTold() {
        of("TICKS: up to 4 told (a rest r, a time m of 1 .. 12, r below m):");
        RockingPorch x = new RockingPorch();
        for (int m = 1; m <= 12; m++) {
            due("rest " + (m - 1) + " of " + m, 1, x.tick(m - 1, m));
            due("so it is", m - 1, x.ticks(0));
            due("rest " + m + " of " + m, NONE, x.tick(m, m));
            due("rest 0 of " + m, 2, x.tick(0, m));
            x.tick(0, NONE);
        }
        int[][] wrong = {{0, 0}, {0, 13}, {12, 13}, {-1, 5}, {5, 5}, {0, -2}, {0, LOW}, {0, HIGH}, {LOW, 12}, {HIGH, 12}};
        for (int[] w : wrong) {
            due("rest " + w[0] + " of " + w[1], NONE, x.tick(w[0], w[1]));
        }
        due("none came", 1, x.ticks(1));
        for (int i = 1; i <= 4; i++) {
            due("the number " + i, i, x.tick(i, 5 + i));
        }
        due("a fifth", NONE, x.tick(0, 1));
    }

    /** The least above or at 'from' that has both rests; NONE: there is none. */
    private static int trial(int r, int m, int s, int k, int from) {
        for (int t = from; t < from + 144; t++) {
            if (t % m == r && t % k == s) {
                return t;
            }
        }
        return NONE;
    }

    private void ticksLeast() {
        of("the least t, 0 at least, that is r modulo m of all (none told: 0; NONE: there is none);");
        due("none told", 0, new RockingPorch().ticks(0));
        due("the longest", 6929, told(10, 11, 8, 9, 6, 7, 9, 10).ticks(0));
        due("0", 0, told(0, 12, 0, 8, 0, 9, 0, 5).ticks(0));
        due("none by the last", NONE, told(1, 12, 1, 8, 1, 9, 0, 2).ticks(0));
        for (int m = 1; m <= 12; m++) {
            for (int r = 0; r < m; r++) {
                RockingPorch x = new RockingPorch();
                for (int k = 1; k <= 12; k++) {
                    int s = (r * 5 + k) % k;
                    x.tick(0, NONE);
                    x.tick(r, m);
                    x.tick(s, k);
                    due(r + " of " + m + ", " + s + " of " + k, trial(r, m, s, k, 0), x.ticks(0));
                }
            }
        }
    }

    private void ticksAgain() {
        of("behind how many they are so again, the fewest (none told: 1; NONE).");
        due("none told", 1, new RockingPorch().ticks(1));
        due("there is none", NONE, told(0, 2, 1, 2).ticks(1));
        due("none by the last", NONE, told(1, 12, 1, 8, 1, 9, 0, 2).ticks(1));
        due("the longest", 6930, told(10, 11, 8, 9, 6, 7, 9, 10).ticks(1));
        due("times with parts alike", 24, told(1, 12, 1, 8, 1, 6, 1, 4).ticks(1));
        due("one twice", 5, told(3, 5, 3, 5).ticks(1));
        due("a time of 1", 1, told(0, 1).ticks(1));
        for (int m = 1; m <= 12; m++) {
            RockingPorch x = new RockingPorch();
            for (int k = 1; k <= 12; k++) {
                x.tick(0, NONE);
                x.tick(0, m);
                x.tick(k / 2, k);
                int least = trial(0, m, k / 2, k, 0);
                int next = least == NONE ? NONE : trial(0, m, k / 2, k, least + 1) - least;
                due("0 of " + m + ", " + k / 2 + " of " + k, next, x.ticks(1));
            }
        }
    }

    private static RockingPorch told(int... rests) {
        RockingPorch x = new RockingPorch();
        for (int i = 0; i < rests.length; i += 2) {
            x.tick(rests[i], rests[i + 1]);
        }
        return x;
    }

    /** Tries every order of n from place 'at' on; 'apart' has a bit for each couple. */
    private static int orders(int[] order, int at, int n, boolean[][] apart, boolean ring) {
        if (at == n) {
            return ring && n > 1 && apart[order[n - 1]][order[0]] ? 0 : 1;
        }
        int many = 0;
        for (int who = 0; who < n; who++) {
            boolean can = at == 0 || !apart[order[at - 1]][who];
            for (int i = 0; i < at; i++) {
                can &= order[i] != who;
            }
            if (can) {
                order[at] = who;
                many += orders(order, at + 1, n, apart, ring);
            }
        }
        return many;
    }

    private void dueOrders(boolean ring, int... couples) {
        RockingPorch x = new RockingPorch();
        boolean[][] apart = new boolean[7][7];
        StringBuilder told = new StringBuilder();
        for (int i = 0; i < couples.length; i += 2) {
            x.apart(couples[i], couples[i + 1]);
            apart[couples[i]][couples[i + 1]] = true;
            apart[couples[i + 1]][couples[i]] = true;
            told.append(' ').append(couples[i]).append('-').append(couples[i + 1]);
        }
        for (int n = 1; n <= 7; n++) {
            due(n + " seated," + told, orders(new int[7], 0, n, apart, ring), x.seated(n, ring ? 1 : 0));
        }
    }

    private void dueAllOrders(boolean ring) {
        dueOrders(ring);
        dueOrders(ring, 0, 1);
        dueOrders(ring, 6, 5);
        dueOrders(ring, 0, 6, 6, 0);
        dueOrders(ring, 0, 1, 1, 2, 2, 3, 3, 4, 4, 5, 5, 6, 6, 0);
        dueOrders(ring, 0, 1, 0, 2, 0, 3, 0, 4, 0, 5, 0, 6);
        dueOrders(ring, 0, 1, 0, 2, 1, 2, 3, 4, 3, 5, 4, 5, 6, 0, 6, 1, 6, 2, 6, 3);
        dueOrders(ring, 6, 5, 5, 4, 4, 3, 3, 2, 2, 1, 1, 0, 0, 2, 2, 4, 4, 6);
    }

    private void rowOfSeats() {
        of("SEATED: n (1 .. 7) in a row,");
        RockingPorch x = new RockingPorch();
        for (int n = 1; n <= 7; n++) {
            due(n + " in a row", FACTORIALS[n], x.seated(n, 0));
        }
        due("0 in a row", NONE, x.seated(0, 0));
        due("8 in a row", NONE, x.seated(8, 0));
        of("up to 10 told couples (0 .. 6, unlike;");
        due("0 and 6", 1, x.apart(0, 6));
        due("6 and 0", 2, x.apart(6, 0));
        int[][] wrong = {{0, 0}, {6, 6}, {0, 7}, {7, 0}, {0, -1}, {-2, 0}, {0, LOW}, {0, HIGH}, {LOW, 0}, {HIGH, 0}};
        for (int[] w : wrong) {
            due("couple " + w[0] + " " + w[1], NONE, x.apart(w[0], w[1]));
        }
        for (int i = 3; i <= 10; i++) {
            due("the number " + i, i, x.apart(i % 6, i % 6 + 1));
        }
        due("an eleventh", NONE, x.apart(0, 5));
        of("those not below n do not count)");
        RockingPorch y = new RockingPorch();
        y.apart(4, 1);
        due("four", 24, y.seated(4, 0));
        due("five", 120 - 2 * 24, y.seated(5, 0));
        y.apart(0, 6);
        due("six", 720 - 2 * 120, y.seated(6, 0));
        due("four in a ring", 24, y.seated(4, 1));
        of("who won't sit side by side: in how many orders;");
        dueAllOrders(false);
        due("none", 0, couple(0, 1).seated(2, 0));
        due("beside the midst alone", 2, couple(0, 1).seated(3, 0));
    }

    private static RockingPorch couple(int a, int b) {
        RockingPorch x = new RockingPorch();
        x.apart(a, b);
        return x;
    }

    private void ringOfSeats() {
        of("the same in a ring, the last one beside the first, too (its places told apart, orders turned round, too;");
        RockingPorch x = new RockingPorch();
        for (int n = 1; n <= 7; n++) {
            due(n + " in a ring", FACTORIALS[n], x.seated(n, 1));
        }
        due("0 in a ring", NONE, x.seated(0, 1));
        due("8 in a ring", NONE, x.seated(8, 1));
        dueAllOrders(true);
        due("none of two", 0, couple(0, 1).seated(2, 1));
        due("none of three", 0, couple(0, 1).seated(3, 1));
        due("eight of four", 8, couple(0, 1).seated(4, 1));
        of("n 1: 1).");
        due("one", 1, x.seated(1, 1));
        due("one, couples told", 1, couple(0, 1).seated(1, 1));
        due("one in a row", 1, couple(1, 0).seated(1, 0));
    }

    private static RockingPorch points(int... xy) {
        RockingPorch x = new RockingPorch();
        for (int i = 0; i < xy.length; i += 2) {
            x.point(xy[i], xy[i + 1]);
        }
        return x;
    }

    private void pointsTold() {
        of("LINE: up to 8 told unlike points (x, y 0 .. 20):");
        RockingPorch x = new RockingPorch();
        due("0, 0", 1, x.point(0, 0));
        due("20, 20", 2, x.point(20, 20));
        due("0, 20", 3, x.point(0, 20));
        due("20, 0", 4, x.point(20, 0));
        due("3, 5", 5, x.point(3, 5));
        due("5, 3 is unlike", 6, x.point(5, 3));
        int[][] wrong = {{0, 0}, {20, 20}, {3, 5}, {5, 3}, {21, 0}, {0, 21}, {-2, 0}, {0, -1}, {0, LOW}, {0, HIGH}, {LOW, 0}, {HIGH, 0}};
        for (int[] w : wrong) {
            due("point " + w[0] + " " + w[1], NONE, x.point(w[0], w[1]));
        }
        due("seven", 7, x.point(1, 0));
        due("eight", 8, x.point(0, 1));
        due("a ninth", NONE, x.point(9, 9));
    }

    private void lines() {
        of("the most of them on one straight line");
        due("two", 2, points(0, 0, 20, 19).line(0));
        due("three not", 2, points(0, 0, 1, 1, 2, 3).line(0));
        due("three so", 3, points(0, 0, 2, 3, 4, 6).line(0));
        due("upright", 3, points(7, 0, 7, 20, 7, 9, 8, 9).line(0));
        due("level", 4, points(0, 9, 20, 9, 3, 9, 3, 8, 4, 9).line(0));
        due("falling", 5, points(0, 20, 20, 0, 10, 10, 1, 19, 19, 1, 5, 5).line(0));
        due("all eight", 8, points(0, 1, 1, 3, 2, 5, 3, 7, 4, 9, 5, 11, 6, 13, 9, 19).line(0));
        due("side by side is not on one", 2, points(0, 0, 1, 2, 5, 0, 6, 2).line(0));
        due("the last three of eight", 3, points(0, 0, 0, 1, 1, 0, 3, 1, 1, 4, 20, 20, 19, 20, 18, 20).line(0));
        of("(one or none: as many);");
        due("none", 0, points().line(0));
        due("one", 1, points(20, 20).line(0));
        of("the least of what two are apart, squared (of x and y, together);");
        due("the corners", 800, points(0, 0, 20, 20).line(1));
        due("side by side", 1, points(0, 0, 20, 20, 20, 19).line(1));
        due("a knight's move", 5, points(0, 0, 20, 20, 9, 9, 10, 11).line(1));
        due("the last two of eight", 2, points(0, 0, 4, 0, 8, 0, 12, 0, 16, 0, 20, 0, 9, 9, 10, 8).line(1));
        of("the greatest");
        due("the corners", 800, points(20, 0, 7, 7, 0, 20).line(2));
        due("one less", 761, points(0, 0, 20, 19, 19, 19).line(2));
        due("level", 400, points(0, 0, 20, 0, 7, 1).line(2));
        of("(fewer than two: NONE).");
        due("the least of none", NONE, points().line(1));
        due("the greatest of none", NONE, points().line(2));
        due("the least of one", NONE, points(0, 0).line(1));
        due("the greatest of one", NONE, points(0, 0).line(2));
    }

    private void goes() {
        of("GOES what 0 SWING, 1 MISSED, 2 SAT, 3 free.");
        RockingPorch x = rocking(50);
        law(x, "fades 1;");
        int[] due = {40, 10, 1, 1};
        for (int what = 0; what <= 3; what++) {
            due("what " + what, due[what], x.goes(10, what));
        }
        x.minutes(10);
        due("as it went: swing", 40, x.of(0, 1));
        due("as it went: missed", 10, x.who(0, 2));
        due("as it went: sat", 1, x.who(0, 3));
        due("as it went: free", 2, x.look(3));
        of("NONE if one can't be, or another what.");
        int[] n = {0, -1, 61, LOW, HIGH};
        for (int minutes : n) {
            for (int what = 0; what <= 3; what++) {
                due("for " + minutes + " what " + what, NONE, x.goes(minutes, what));
            }
        }
        int[] wrong = {4, -1, LOW, HIGH};
        for (int what : wrong) {
            due("what " + what, NONE, x.goes(1, what));
        }
    }

    private void seat() {
        of("SEAT.");
        RockingPorch x = rocking(12);
        due("one is free", 0, x.seat());
        x.act(0, 2, 1);
        due("fades 10 less 4", 2, x.seat());
        x.set(3, 0, 3);
        due("and less 3", 4, x.seat());
        x.set(3, 0, 6);
        due("never", NONE, x.seat());
    }

    private void tick() {
        of("For TICKS (m NONE: none is then): how many;");
        RockingPorch x = new RockingPorch();
        int[] rests = {0, -1, LOW, HIGH};
        for (int r : rests) {
            due("one", 1, x.tick(3, 7));
            due("two", 2, x.tick(1, 2));
            due("none, rest " + r, 0, x.tick(r, NONE));
            due("the least of none", 0, x.ticks(0));
            due("again of none", 1, x.ticks(1));
        }
        due("one again", 1, x.tick(11, 12));
        due("of that one alone", 11, x.ticks(0));
        of("NONE if one can't be, or there are four.");
        int[][] wrong = {{1, 1}, {12, 12}, {0, 0}, {0, 13}, {0, -2}, {-1, 12}, {LOW, LOW}, {HIGH, HIGH}};
        for (int[] w : wrong) {
            due("tick " + w[0] + " " + w[1], NONE, x.tick(w[0], w[1]));
        }
        due("that one alone still", 12, x.ticks(1));
        x.tick(1, 2);
        x.tick(1, 2);
        due("four", 4, x.tick(4, 5));
        due("five", NONE, x.tick(0, 7));
        due("without it", 59, x.ticks(0));
        due("none is then", 0, x.tick(0, NONE));
        due("one again", 1, x.tick(0, 7));
    }

    private void ticks() {
        of("TICKS what 0 the least, 1 behind how many again.");
        RockingPorch x = told(3, 4, 5, 6);
        due("the least", 11, x.ticks(0));
        due("again", 12, x.ticks(1));
        of("NONE, too, for another what.");
        int[] wrong = {2, -1, LOW, HIGH};
        for (int what : wrong) {
            due("what " + what, NONE, x.ticks(what));
            due("none told, what " + what, NONE, new RockingPorch().ticks(what));
        }
        due("there is none: the least", NONE, told(0, 4, 1, 6).ticks(0));
        due("there is none: again", NONE, told(0, 4, 1, 6).ticks(1));
    }

    private void apart() {
        of("A couple for SEATED (a NONE: none is then): how many;");
        RockingPorch x = new RockingPorch();
        int[] b = {0, -1, 7, LOW, HIGH};
        for (int any : b) {
            due("one", 1, x.apart(0, 1));
            due("two", 2, x.apart(5, 6));
            due("not all orders", 12, x.seated(4, 0));
            due("none, b " + any, 0, x.apart(NONE, any));
            due("all orders", 24, x.seated(4, 0));
        }
        of("NONE if one can't be, or there are ten.");
        int[][] wrong = {{3, 3}, {7, 1}, {1, 7}, {1, -1}, {-2, 1}, {LOW, 1}, {HIGH, 1}, {1, LOW}, {1, HIGH}};
        for (int[] w : wrong) {
            due("apart " + w[0] + " " + w[1], NONE, x.apart(w[0], w[1]));
        }
        due("none came", 1, x.apart(0, 1));
        for (int i = 2; i <= 10; i++) {
            due("the number", i, x.apart(1, 0));
        }
        due("an eleventh", NONE, x.apart(2, 3));
        due("without it", 12, x.seated(4, 0));
        due("none is then", 0, x.apart(NONE, 0));
        due("one again", 1, x.apart(2, 3));
    }

    private void seated() {
        of("SEATED of n what 0 in a row, 1 in a ring.");
        RockingPorch x = couple(0, 3);
        due("in a row", 12, x.seated(4, 0));
        due("in a ring", 8, x.seated(4, 1));
        of("NONE if n can't be, or another what.");
        int[] n = {0, -1, 8, LOW, HIGH};
        for (int many : n) {
            due(many + " in a row", NONE, x.seated(many, 0));
            due(many + " in a ring", NONE, x.seated(many, 1));
        }
        int[] wrong = {2, -1, LOW, HIGH};
        for (int what : wrong) {
            due("what " + what, NONE, x.seated(4, what));
            due("one, what " + what, NONE, x.seated(1, what));
        }
    }

    private void point() {
        of("A point for LINE (x NONE: none is then): how many;");
        RockingPorch x = new RockingPorch();
        int[] y = {0, -1, 21, LOW, HIGH};
        for (int any : y) {
            due("one", 1, x.point(3, 7));
            due("two", 2, x.point(7, 3));
            due("none, y " + any, 0, x.point(NONE, any));
            due("none on a line", 0, x.line(0));
        }
        of("NONE if one can't be (told already), or there are eight.");
        due("one", 1, x.point(3, 7));
        int[][] wrong = {{3, 7}, {21, 7}, {3, 21}, {3, -1}, {-2, 7}, {LOW, 7}, {HIGH, 7}, {3, LOW}, {3, HIGH}};
        for (int[] w : wrong) {
            due("point " + w[0] + " " + w[1], NONE, x.point(w[0], w[1]));
        }
        due("that one alone", 1, x.line(0));
        for (int i = 2; i <= 8; i++) {
            due("the number", i, x.point(3, 6 + i));
        }
        due("a ninth", NONE, x.point(3, 20));
        due("a ninth, told already", NONE, x.point(3, 7));
        due("without it", 8, x.line(0));
        due("nor further", 49, x.line(2));
        due("none is then", 0, x.point(NONE, 0));
        due("one again", 1, x.point(3, 20));
    }

    private void line() {
        of("LINE what 0 the most, 1 the least, 2 the greatest apart.");
        RockingPorch x = points(0, 0, 1, 1, 3, 3, 0, 5);
        due("the most", 3, x.line(0));
        due("the least", 2, x.line(1));
        due("the greatest", 25, x.line(2));
        of("NONE, too, for another what.");
        int[] wrong = {3, -1, LOW, HIGH};
        for (int what : wrong) {
            due("what " + what, NONE, x.line(what));
        }
        due("fewer than two", NONE, points(4, 4).line(1));
    }
}
