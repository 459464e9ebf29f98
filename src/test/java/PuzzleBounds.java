/** Of what is thought out besides (Terms 4 from RUG on; promises 23 to 34). */
final class PuzzleBounds extends Bounds {
    private static final int[] ORDERS = {0, 1, 2, 5, 14, 42, 132, 429, 1430};

    PuzzleBounds(Check check, Sentences sentences) {
        super(check, sentences);
    }

    void all() {
        in("Terms");
        places();
        rectangles();
        greatestRug();
        orders();
        letsOut();
        rows();
        trunkSize();
        weights();
        firstFit();
        fewest();
        heads();
        fits();
        average();
        likely();
        lowest();
        farApart();
        asNear();
        numbers();
        threes();
        stairs();
        squares();
        games();
        in("Promise 23: full");
        full();
        in("Promise 24: rug");
        rug();
        in("Promise 25: stack");
        stack();
        in("Promise 26: weight");
        weight();
        in("Promise 27: trunks");
        trunks();
        in("Promise 28: throwing");
        throwing();
        in("Promise 29: ahead");
        ahead();
        in("Promise 30: hands");
        hands();
        in("Promise 31: step");
        step();
        in("Promise 32: steps");
        steps();
        in("Promise 33: coin");
        coin();
        in("Promise 34: slide");
        slide();
    }

    private void places() {
        of("RUG: 6 by 6 places, told full ones (none at first):");
        due("none at first", 36, new RockingPorch().rug(1));
        int[][] corners = {{0, 0}, {5, 0}, {0, 5}, {5, 5}};
        for (int[] c : corners) {
            RockingPorch x = new RockingPorch();
            due("corner " + c[0] + " " + c[1], true, x.full(c[0], c[1], true));
            due("without the corner", 441 - 36, x.rug(0));
        }
        int[][] wrong = {{6, 0}, {0, 6}, {-1, 0}, {0, -1}, {LOW, 0}, {0, HIGH}};
        RockingPorch y = new RockingPorch();
        for (int[] w : wrong) {
            due("place " + w[0] + " " + w[1], false, y.full(w[0], w[1], true));
        }
        due("none still", 441, y.rug(0));
    }

    /** How many rectangles are without a full place, or the greatest of them; bit 6 y + x of 'full' is the place x, y. */
    private static int rectangles(long full, boolean greatest) {
        int many = 0;
        int most = 0;
        for (int left = 0; left < 6; left++) {
            for (int right = left; right < 6; right++) {
                for (int top = 0; top < 6; top++) {
                    for (int low = top; low < 6; low++) {
                        long row = (1L << (right - left + 1)) - 1 << left;
                        long all = 0;
                        for (int y = top; y <= low; y++) {
                            all |= row << 6 * y;
                        }
                        if ((all & full) == 0) {
                            many++;
                            most = Math.max(most, Long.bitCount(all));
                        }
                    }
                }
            }
        }
        return greatest ? most : many;
    }

    private static RockingPorch carpet(long full) {
        RockingPorch x = new RockingPorch();
        for (int i = 0; i < 36; i++) {
            x.full(i % 6, i / 6, (full >> i & 1) == 1);
        }
        return x;
    }

    private void rectangles() {
        of("how many rectangles of places along the walls, 1 by 1, too, have no full one;");
        due("none full", 441, new RockingPorch().rug(0));
        due("all full", 0, carpet(-1L).rug(0));
        long drawn = 1;
        for (int i = 0; i < 36; i++) {
            due("place " + i + " free alone", 1, carpet(~(1L << i)).rug(0));
            due("place " + i + " full alone", rectangles(1L << i, false), carpet(1L << i).rug(0));
            drawn = drawn * 6364136223846793005L + 1442695040888963407L;
            long few = drawn >> 20 & drawn >> 9;
            due("places " + few, rectangles(few, false), carpet(few).rug(0));
            due("places " + drawn, rectangles(drawn, false), carpet(drawn).rug(0));
        }
    }

    private void greatestRug() {
        of("of how many places the greatest is.");
        due("none full", 36, new RockingPorch().rug(1));
        due("all full", 0, carpet(-1L).rug(1));
        due("one free", 1, carpet(~(1L << 35)).rug(1));
        due("one column free", 6, carpet(~0x041041041L).rug(1));
        due("one row free", 6, carpet(~(0x3fL << 30)).rug(1));
        long drawn = 7;
        for (int i = 0; i < 36; i++) {
            drawn = drawn * 6364136223846793005L + 1442695040888963407L;
            long few = drawn >> 20 & drawn >> 9;
            due("place " + i + " full alone", rectangles(1L << i, true), carpet(1L << i).rug(1));
            due("places " + few, rectangles(few, true), carpet(few).rug(1));
            due("places " + drawn, rectangles(drawn, true), carpet(drawn).rug(1));
        }
    }

    private void orders() {
        of("STACK: a told order of 1 .. 8 digits behind a 1 (each of 0 .. n - 1 once):");
        RockingPorch x = new RockingPorch();
        int[] fine = {10, 101, 110, 1012, 1210, 10123, 101234, 1012345, 10123456, 101234567, 176543210, 170123456};
        for (int order : fine) {
            due("order " + order, true, x.stack(order, 0) != NONE);
            due("tracks of " + order, true, x.stack(order, 1) != NONE);
        }
        int[] none = {1, 11, 0, 9, 20, 100, 111, 102, 120, 112, 201, 210, 1013, 1011, 1000, 1123, 2012, 9012, 101238, 101244, 1012346,
            201234567, 101234568, 101234566, 177543210, 1012345678, 1876543210, 1123456780, 2147483647, -10, -101, -1, LOW, HIGH};
        for (int order : none) {
            due("order " + order, NONE, x.stack(order, 0));
            due("tracks of " + order, NONE, x.stack(order, 1));
        }
    }

    /** An order fails just if behind a number two lesser ones come, the lower of them first. */
    private static boolean comesOff(int[] order) {
        for (int i = 0; i < order.length; i++) {
            for (int j = i + 1; j < order.length; j++) {
                for (int k = j + 1; k < order.length; k++) {
                    if (order[j] < order[k] && order[k] < order[i]) {
                        return false;
                    }
                }
            }
        }
        return true;
    }

    /** Each number goes into the row whose last one is the nearest below it. */
    private static int risingRows(int[] order) {
        int[] last = new int[order.length];
        int used = 0;
        for (int v : order) {
            int best = NONE;
            for (int i = 0; i < used; i++) {
                best = last[i] < v && (best == NONE || last[i] > last[best]) ? i : best;
            }
            last[best == NONE ? used++ : best] = v;
        }
        return used;
    }

    private final class Tally {
        private final boolean tracks;
        private RockingPorch x = new RockingPorch();
        private int asked = 0;
        private int few = 0;

        Tally(boolean tracks) {
            this.tracks = tracks;
        }

        void each(int[] order, int at, int seen, int told) {
            if (at == order.length) {
                one(order, told);
                return;
            }
            for (int v = 0; v < order.length; v++) {
                if ((seen >> v & 1) == 0) {
                    order[at] = v;
                    each(order, at + 1, seen | 1 << v, told * 10 + v);
                }
            }
        }

        private void one(int[] order, int told) {
            if (asked % 500 == 0) {
                x = new RockingPorch();
            }
            asked++;
            int want = tracks ? risingRows(order) : comesOff(order) ? 1 : 0;
            due("order " + told, want, x.stack(told, tracks ? 1 : 0));
            few += (tracks ? want <= 2 : want == 1) ? 1 : 0;
        }
    }

    private void dueAll(boolean tracks) {
        for (int n = 1; n <= 8; n++) {
            Tally tally = new Tally(tracks);
            tally.each(new int[n], 0, 0, 1);
            due("such orders of " + n, ORDERS[n], tally.few);
        }
    }

    private void letsOut() {
        of("0, 1, 2, .. are laid on a stack one by one, and whenever one likes the highest is taken off: whether they can come off in that order (1, 0);");
        RockingPorch x = new RockingPorch();
        due("one", 1, x.stack(10, 0));
        due("as they come", 1, x.stack(101234567, 0));
        due("all laid first", 1, x.stack(176543210, 0));
        due("2 and then what lies lowest", 0, x.stack(1201, 0));
        due("2 and then what lies highest", 1, x.stack(1210, 0));
        due("the last two wrong", 0, x.stack(176543201, 0));
        dueAll(false);
    }

    private void rows() {
        of("of how few rising rows side by side or not it is made (each number in one of them, each greater than the one ahead in its row).");
        RockingPorch x = new RockingPorch();
        due("one", 1, x.stack(10, 1));
        due("all rise", 1, x.stack(101234567, 1));
        due("all fall", 8, x.stack(176543210, 1));
        due("not side by side", 2, x.stack(110325476, 1));
        due("two halves", 2, x.stack(145670123, 1));
        dueAll(true);
    }

    private static RockingPorch load(int... weights) {
        RockingPorch x = new RockingPorch();
        for (int w : weights) {
            x.weight(w);
        }
        return x;
    }

    private void trunkSize() {
        of("TRUNKS of s (1 .. 99):");
        RockingPorch x = load(1, 1, 1);
        for (int what = 0; what <= 1; what++) {
            due("of 0", NONE, x.trunks(0, what));
            due("of 1", 3, x.trunks(1, what));
            due("of 2", 2, x.trunks(2, what));
            due("of 99", 1, x.trunks(99, what));
            due("of 100", NONE, x.trunks(100, what));
        }
    }

    private void weights() {
        of("up to 9 told weights (1 .. 99),");
        RockingPorch x = new RockingPorch();
        int[] wrong = {0, -2, 100, LOW, HIGH};
        for (int w : wrong) {
            due("weight " + w, NONE, x.weight(w));
        }
        due("1", 1, x.weight(1));
        due("99", 2, x.weight(99));
        for (int i = 3; i <= 9; i++) {
            due("the number", i, x.weight(99));
        }
        due("a tenth", NONE, x.weight(99));
        due("nine trunks", 9, x.trunks(99, 0));
        due("nine at least", 9, x.trunks(99, 1));
    }

    private void firstFit() {
        of("each in its order into the first trunk in which it has room, else a new one: how many;");
        due("no room", 2, load(5, 6).trunks(10, 0));
        due("just room", 1, load(5, 5).trunks(10, 0));
        due("the first, not the fullest", 3, load(5, 7, 3, 5).trunks(10, 0));
        due("not only the last", 2, load(5, 7, 5).trunks(10, 0));
        due("in its order", 2, load(5, 5, 6, 4).trunks(10, 0));
        due("in another order", 3, load(4, 5, 6, 5).trunks(10, 0));
        due("the third trunk takes it", 3, load(9, 8, 7, 3).trunks(10, 0));
        due("nine by nine", 9, load(6, 6, 6, 6, 6, 6, 6, 6, 6).trunks(10, 0));
        due("nine in one", 1, load(11, 11, 11, 11, 11, 11, 11, 11, 11).trunks(99, 0));
        due("nine in one and a bit", 2, load(11, 11, 11, 11, 11, 11, 11, 11, 12).trunks(99, 0));
    }

    /** The fewest trunks, each weight from 'at' on tried in each trunk used and in a new one. */
    private static int fewest(int[] weights, int at, int[] trunks, int used, int s) {
        if (at == weights.length) {
            return used;
        }
        int best = weights.length + 1;
        for (int i = 0; i <= used; i++) {
            if (trunks[i] + weights[at] <= s) {
                trunks[i] += weights[at];
                best = Math.min(best, fewest(weights, at + 1, trunks, Math.max(used, i + 1), s));
                trunks[i] -= weights[at];
            }
        }
        return best;
    }

    private void fewest() {
        of("the fewest there can be");
        due("fewer than in order", 2, load(4, 5, 6, 5).trunks(10, 1));
        due("none of nine go together", 9, load(6, 6, 6, 6, 6, 6, 6, 6, 6).trunks(10, 1));
        due("three by three", 3, load(50, 48, 1, 49, 49, 1, 33, 33, 33).trunks(99, 1));
        int drawn = 1;
        for (int i = 0; i < 300; i++) {
            int[] w = new int[1 + i % 9];
            for (int k = 0; k < w.length; k++) {
                drawn = drawn * 1103515245 + 12345;
                w[k] = 1 + (drawn >>> 16) % 40;
            }
            int s = 40 + i % 60;
            due("drawn " + i, fewest(w, 0, new int[w.length + 1], 0, s), load(w).trunks(s, 1));
        }
        of("(NONE, both: one is above s).");
        RockingPorch x = load(3, 7, 2);
        for (int what = 0; what <= 1; what++) {
            due("of 6", NONE, x.trunks(6, what));
            due("of 7", 2, x.trunks(7, what));
            due("99 of 98", NONE, load(99).trunks(98, what));
            due("99 of 99", 1, load(99).trunks(99, what));
        }
    }

    /** The row of heads and tails as signs. */
    private static String signs(int a) {
        return Integer.toBinaryString(a).substring(1);
    }

    private static int fit(int a, int b) {
        String of = signs(a);
        String to = signs(b);
        int sum = 0;
        for (int k = 1; k <= of.length(); k++) {
            sum += of.endsWith(to.substring(0, k)) ? 1 << k : 0;
        }
        return sum;
    }

    private void heads() {
        of("THROWS: rows of heads and tails (1 .. 8 bits behind a 1, as a number of ones and noughts in twos, 2 .. 511);");
        RockingPorch x = new RockingPorch();
        due("1", NONE, x.throwing(1));
        due("2", 2, x.throwing(2));
        due("3", 2, x.throwing(3));
        due("4", 6, x.throwing(4));
        due("256", 510, x.throwing(256));
        due("511", 510, x.throwing(511));
        due("512", NONE, x.throwing(512));
        due("255", 254, x.throwing(255));
    }

    private void fits() {
        of("THE FIT of a to b: the sum of 2 to the k for each k, 1 at least, for which the last k of a are the first k of b:");
        RockingPorch x = new RockingPorch();
        for (int a = 4; a <= 7; a++) {
            for (int b = 4; b <= 7; b++) {
                if (a != b) {
                    int top = fit(b, b) - fit(b, a);
                    int low = top + fit(a, a) - fit(a, b);
                    due(signs(a) + " and " + signs(b), (long) top * x.ahead(a, b, 1), (long) low * x.ahead(a, b, 0));
                }
            }
        }
        due("all of them count", 14, x.throwing(0b1111));
        due("the whole one alone", 8, x.throwing(0b1100));
        due("the first and the whole one", 10, x.throwing(0b1010));
        due("halves", 20, x.throwing(0b10101));
    }

    private void average() {
        of("how many throws it takes on the average, till a has come: the FIT of a to a;");
        for (int from = 2; from <= 511; from += 500) {
            RockingPorch x = new RockingPorch();
            for (int a = from; a < from + 500 && a <= 511; a++) {
                due(signs(a), fit(a, a), x.throwing(a));
            }
        }
    }

    private void likely() {
        of("of two unlike rows of as many: how likely a comes ahead of b: x by x and y, x being the FIT of b to b less that of b to a, y that of a to a less that of a to b:");
        RockingPorch x = new RockingPorch();
        dueLikely(x, 2, 3, 1, 2);
        dueLikely(x, 3, 2, 1, 2);
        dueLikely(x, 0b111, 0b101, 1, 4);
        dueLikely(x, 0b101, 0b111, 3, 4);
        dueLikely(x, 0b1011, 0b1110, 3, 4);
        dueLikely(x, 0b1000, 0b1100, 1, 8);
        dueLikely(x, 0b1110, 0b1100, 2, 3);
        dueLikely(x, 0b1100, 0b1001, 3, 4);
        dueLikely(x, 0b1101, 0b1010, 1, 2);
        due("unlike alone", NONE, x.ahead(0b1101, 0b1101, 0));
        due("of as many alone", NONE, x.ahead(0b101, 0b1101, 0));
    }

    private void dueLikely(RockingPorch x, int a, int b, int above, int below) {
        due(signs(a) + " ahead of " + signs(b) + " above", above, x.ahead(a, b, 0));
        due(signs(a) + " ahead of " + signs(b) + " below", below, x.ahead(a, b, 1));
    }

    private static int divisor(int a, int b) {
        return b == 0 ? a : divisor(b, a % b);
    }

    private void lowest() {
        of("as a fraction in lowest terms.");
        for (int a = 256; a <= 511; a += 3) {
            RockingPorch x = new RockingPorch();
            for (int b = 256 + a % 5; b <= 511; b += 5) {
                if (a != b) {
                    int top = fit(b, b) - fit(b, a);
                    int low = top + fit(a, a) - fit(a, b);
                    int common = divisor(low, top);
                    dueLikely(x, a, b, top / common, low / common);
                }
            }
        }
        RockingPorch y = new RockingPorch();
        dueLikely(y, 0b111111111, 0b100000000, 1, 2);
        dueLikely(y, 0b111111111, 0b101111111, 1, 256);
        dueLikely(y, 0b101111111, 0b111111111, 255, 256);
    }

    private static int apartAt(int t) {
        int d = Math.abs(12 * t % 720 - t);
        return d > 360 ? 720 - d : d;
    }

    private void farApart() {
        of("HANDS at minute t (0 .. 719) of a clock of twelve hours (the one comes on by 12, the other by 1 half degree in a minute, 720 round): how far they are apart, the lesser way;");
        RockingPorch x = new RockingPorch();
        due("at first", 0, x.hands(0, 0));
        due("a minute on", 11, x.hands(1, 0));
        due("at six", 360, x.hands(360, 0));
        due("near five past one", 5, x.hands(65, 0));
        due("past it", 6, x.hands(66, 0));
        due("at the last", 11, x.hands(719, 0));
        due("at three", 180, x.hands(180, 0));
        due("at nine", 180, x.hands(540, 0));
        due("before the first", NONE, x.hands(-1, 0));
        due("behind the last", NONE, x.hands(720, 0));
        for (int from = 0; from < 720; from += 360) {
            RockingPorch y = new RockingPorch();
            for (int t = from; t < from + 360; t++) {
                due("at " + t, apartAt(t), y.hands(t, 0));
            }
        }
    }

    private void asNear() {
        of("in how many of the minutes 0 .. t that is as much as at t, or less.");
        RockingPorch x = new RockingPorch();
        due("at first", 1, x.hands(0, 1));
        due("a minute on", 2, x.hands(1, 1));
        due("all of them", 361, x.hands(360, 1));
        due("near five past one", 2, x.hands(65, 1));
        due("past it", 3, x.hands(66, 1));
        for (int from = 0; from < 720; from += 360) {
            RockingPorch y = new RockingPorch();
            for (int t = from; t < from + 360; t++) {
                int many = 0;
                for (int i = 0; i <= t; i++) {
                    many += apartAt(i) <= apartAt(t) ? 1 : 0;
                }
                due("at " + t, many, y.hands(t, 1));
            }
        }
    }

    private static RockingPorch stair(int... numbers) {
        RockingPorch x = new RockingPorch();
        for (int v : numbers) {
            x.step(v);
        }
        return x;
    }

    private void numbers() {
        of("STEPS: up to 10 told unlike numbers (0 .. 60):");
        RockingPorch x = new RockingPorch();
        due("0", 1, x.step(0));
        due("60", 2, x.step(60));
        int[] wrong = {0, 60, 61, -2, LOW, HIGH};
        for (int v : wrong) {
            due("step " + v, NONE, x.step(v));
        }
        for (int i = 3; i <= 10; i++) {
            due("the number", i, x.step(i));
        }
        due("an eleventh", NONE, x.step(30));
        due("an eleventh, told", NONE, x.step(60));
    }

    private void threes() {
        of("how many threes of them stand by like steps (the midst as far from both);");
        due("none", 0, stair().steps(0));
        due("one", 0, stair(30).steps(0));
        due("two", 0, stair(0, 60).steps(0));
        due("three, not so", 0, stair(0, 30, 59).steps(0));
        due("three, as far as can be", 1, stair(60, 0, 30).steps(0));
        due("three, as near as can be", 1, stair(59, 60, 58).steps(0));
        due("one in two threes", 2, stair(0, 10, 20, 40).steps(0));
        due("ten by one", 20, stair(9, 8, 7, 6, 5, 4, 3, 2, 1, 0).steps(0));
        due("ten by six", 20, stair(6, 12, 18, 24, 30, 36, 42, 48, 54, 60).steps(0));
        due("by twos each", 0, stair(0, 1, 3, 7, 15, 31, 60).steps(0));
    }

    private void stairs() {
        of("the most that stand so in a row (one or none: as many; two: 2).");
        due("none", 0, stair().steps(1));
        due("one", 1, stair(60).steps(1));
        due("one, 0", 1, stair(0).steps(1));
        due("two", 2, stair(0, 60).steps(1));
        due("two side by side", 2, stair(60, 59).steps(1));
        due("three, not so", 2, stair(0, 30, 59).steps(1));
        due("three so", 3, stair(0, 30, 60).steps(1));
        due("over others", 4, stair(0, 2, 3, 4, 6).steps(1));
        due("two threes alone", 3, stair(0, 10, 20, 40).steps(1));
        due("ten by six", 10, stair(6, 12, 18, 24, 30, 36, 42, 48, 54, 60).steps(1));
        due("nine of ten", 9, stair(0, 7, 14, 21, 28, 35, 42, 49, 56, 60).steps(1));
        due("on to 60", 5, stair(1, 16, 31, 46, 60, 15, 30, 45, 0).steps(1));
    }

    private static RockingPorch coins(int set) {
        RockingPorch x = new RockingPorch();
        for (int v = 30; v >= 0; v--) {
            if ((set >> v & 1) == 1) {
                x.coin(v);
            }
        }
        return x;
    }

    private static RockingPorch game(int... squares) {
        RockingPorch x = new RockingPorch();
        for (int v : squares) {
            x.coin(v);
        }
        return x;
    }

    private void squares() {
        of("SLIDE: up to 6 told unlike squares (0 .. 40) with a coin each:");
        RockingPorch x = new RockingPorch();
        due("0", 1, x.coin(0));
        due("40", 2, x.coin(40));
        int[] wrong = {0, 40, 41, -2, LOW, HIGH};
        for (int v : wrong) {
            due("coin " + v, NONE, x.coin(v));
        }
        for (int i = 3; i <= 6; i++) {
            due("the number", i, x.coin(i));
        }
        due("a seventh", NONE, x.coin(20));
        due("a seventh, told", NONE, x.coin(40));
    }

    /** How who begins wins from each set of coins on low squares: tried out, lesser sets first. */
    private static int[] solved(int squares) {
        int[] win = new int[1 << squares];
        for (int set = 0; set < win.length; set++) {
            win[set] = NONE;
            for (int v = 0; v < squares && win[set] == NONE; v++) {
                boolean on = (set >> v & 1) == 1;
                for (int by = 1; on && by <= v && (set >> (v - by) & 1) == 0 && win[set] == NONE; by++) {
                    win[set] = win[set ^ 1 << v ^ 1 << (v - by)] == NONE ? 100 * v + by : NONE;
                }
            }
        }
        return win;
    }

    private void games() {
        of("two by turns move one coin nearer to 0, not over another one, not upon it; who can't loses:");
        int[] win = solved(12);
        for (int set = 0; set < win.length; set++) {
            if (Integer.bitCount(set) <= 6) {
                due("coins " + Integer.toBinaryString(set), win[set] == NONE, coins(set).slide() == NONE);
            }
        }
        of("the least square (times 100) whose coin who begins moves to win, and by how much (the least;");
        due("one coin", 101, game(1).slide());
        due("one coin afar", 4040, game(40).slide());
        due("two coins", 4039, game(40, 0).slide());
        due("the lower of three", 101, game(3, 1, 2).slide());
        due("four coins", 202, game(8, 2, 5, 3).slide());
        due("not over nor upon", 4037, game(0, 1, 2, 40).slide());
        for (int set = 0; set < win.length; set++) {
            if (Integer.bitCount(set) <= 6) {
                due("coins " + Integer.toBinaryString(set), win[set], coins(set).slide());
            }
        }
        of("NONE: loses).");
        due("no coins", NONE, game().slide());
        due("one on 0", NONE, game(0).slide());
        due("none can move", NONE, game(0, 1, 2, 3, 4, 5).slide());
        due("two side by side", NONE, game(39, 40).slide());
        due("two equal gaps", NONE, game(3, 6, 10, 13).slide());
    }

    private void full() {
        of("A place for RUG is full (true), free (false): true;");
        RockingPorch x = new RockingPorch();
        due("full", true, x.full(2, 3, true));
        due("it is", rectangles(1L << 20, false), x.rug(0));
        due("full again", true, x.full(2, 3, true));
        due("it is still", rectangles(1L << 20, false), x.rug(0));
        due("free", true, x.full(2, 3, false));
        due("it is", 441, x.rug(0));
        due("free again", true, x.full(2, 3, false));
        due("it is still", 441, x.rug(0));
        due("the corner", true, x.full(5, 5, true));
        due("the place by it", true, x.full(4, 5, true));
        due("two are", rectangles(3L << 34, false), x.rug(0));
        of("false if one can't be (0 .. 5).");
        int[][] wrong = {{6, 0}, {0, 6}, {6, 6}, {-1, 0}, {0, -1}, {-1, 1}, {LOW, 0}, {0, LOW}, {HIGH, 0}, {0, HIGH}};
        for (int[] w : wrong) {
            due("full " + w[0] + " " + w[1], false, x.full(w[0], w[1], true));
            due("free " + w[0] + " " + w[1], false, x.full(w[0], w[1], false));
        }
        due("two still", rectangles(3L << 34, false), x.rug(0));
    }

    private void rug() {
        of("RUG what 0 how many, 1 the greatest (none: 0).");
        RockingPorch x = carpet(1L);
        due("how many", 405, x.rug(0));
        due("the greatest", 30, x.rug(1));
        RockingPorch none = carpet(-1L);
        due("none", 0, none.rug(0));
        due("the greatest of none", 0, none.rug(1));
        of("NONE for another what.");
        int[] wrong = {2, -1, LOW, HIGH};
        for (int what : wrong) {
            due("what " + what, NONE, x.rug(what));
            due("none, what " + what, NONE, none.rug(what));
        }
    }

    private void stack() {
        of("STACK of an order what 0 whether, 1 on how few tracks.");
        RockingPorch x = new RockingPorch();
        due("whether", 0, x.stack(13012, 0));
        due("on how few", 2, x.stack(13012, 1));
        due("whether it can", 1, x.stack(1210, 0));
        due("on three", 3, x.stack(1210, 1));
        of("NONE if one can't be, or another what.");
        int[] none = {1, 0, -1, 11, 100, 210, 1013, 101234568, 1012345678, -110, LOW, HIGH};
        for (int order : none) {
            due("order " + order, NONE, x.stack(order, 0));
            due("tracks " + order, NONE, x.stack(order, 1));
        }
        int[] wrong = {2, -1, LOW, HIGH};
        for (int what : wrong) {
            due("what " + what, NONE, x.stack(10, what));
        }
    }

    private void weight() {
        of("A weight for TRUNKS (NONE: none is then): how many;");
        RockingPorch x = new RockingPorch();
        due("none of none", 0, x.weight(NONE));
        due("one", 1, x.weight(99));
        due("two, as much", 2, x.weight(99));
        due("none", 0, x.weight(NONE));
        due("no trunk", 0, x.trunks(1, 0));
        due("one again", 1, x.weight(1));
        of("NONE if one can't be, or there are nine.");
        int[] wrong = {0, 100, -2, LOW, HIGH};
        for (int w : wrong) {
            due("weight " + w, NONE, x.weight(w));
        }
        due("that one alone", 1, x.trunks(1, 0));
        for (int i = 2; i <= 9; i++) {
            due("the number", i, x.weight(1));
        }
        due("a tenth", NONE, x.weight(1));
        due("nine still", 9, x.trunks(1, 0));
        due("none is then", 0, x.weight(NONE));
        due("one again", 1, x.weight(7));
    }

    private void trunks() {
        of("TRUNKS of s what 0 how many, 1 the fewest (none told: 0).");
        RockingPorch x = load(4, 5, 6, 5);
        due("how many", 3, x.trunks(10, 0));
        due("the fewest", 2, x.trunks(10, 1));
        RockingPorch none = load();
        int[] sizes = {1, 50, 99};
        for (int s : sizes) {
            due("none told of " + s, 0, none.trunks(s, 0));
            due("the fewest of none of " + s, 0, none.trunks(s, 1));
        }
        of("NONE, too, if s can't be, or another what.");
        int[] s = {0, -1, 100, LOW, HIGH};
        for (int size : s) {
            for (int what = 0; what <= 1; what++) {
                due("of " + size, NONE, x.trunks(size, what));
                due("none told of " + size, NONE, none.trunks(size, what));
            }
        }
        int[] wrong = {2, -1, LOW, HIGH};
        for (int what : wrong) {
            due("what " + what, NONE, x.trunks(10, what));
            due("none told, what " + what, NONE, none.trunks(10, what));
        }
    }

    private void throwing() {
        of("THROWS: how many on the average.");
        RockingPorch x = new RockingPorch();
        due("01010", 42, x.throwing(0b101010));
        due("0", 2, x.throwing(2));
        due("11111111", 510, x.throwing(511));
        of("NONE if a can't be.");
        int[] none = {1, 0, -1, -2, 512, 513, 1024, LOW, HIGH};
        for (int a : none) {
            due("throwing " + a, NONE, x.throwing(a));
        }
    }

    private void ahead() {
        of("THROWS of two rows what 0 above, 1 below.");
        RockingPorch x = new RockingPorch();
        dueLikely(x, 0b1011, 0b1110, 3, 4);
        dueLikely(x, 0b1110, 0b1011, 1, 4);
        of("NONE if one can't be (alike, or not as many), or another what.");
        int[][] none = {{2, 2}, {511, 511}, {3, 4}, {4, 3}, {255, 256}, {256, 255}, {1, 2}, {2, 1}, {1, 1}, {0, 2}, {2, 0}, {511, 512}, {512, 511},
            {512, 513}, {-1, -2}, {LOW, 2}, {2, LOW}, {HIGH, 511}, {511, HIGH}, {LOW, HIGH}};
        for (int[] n : none) {
            for (int what = 0; what <= 1; what++) {
                due("ahead " + n[0] + " " + n[1], NONE, x.ahead(n[0], n[1], what));
            }
        }
        int[] wrong = {2, -1, LOW, HIGH};
        for (int what : wrong) {
            due("what " + what, NONE, x.ahead(2, 3, what));
        }
    }

    private void hands() {
        of("HANDS what 0 how far, 1 how many.");
        RockingPorch x = new RockingPorch();
        due("how far", 5, x.hands(655, 0));
        due("how many", 11, x.hands(655, 1));
        of("NONE if t can't be, or another what.");
        int[] none = {-1, 720, LOW, HIGH};
        for (int t : none) {
            due("how far at " + t, NONE, x.hands(t, 0));
            due("how many at " + t, NONE, x.hands(t, 1));
        }
        due("at the last", 11, x.hands(719, 0));
        int[] wrong = {2, -1, LOW, HIGH};
        for (int what : wrong) {
            due("what " + what, NONE, x.hands(0, what));
        }
    }

    private void step() {
        of("A number for STEPS (NONE: none is then): how many;");
        RockingPorch x = new RockingPorch();
        due("none of none", 0, x.step(NONE));
        due("one", 1, x.step(60));
        due("two", 2, x.step(0));
        due("none", 0, x.step(NONE));
        due("none in a row", 0, x.steps(1));
        due("one again", 1, x.step(60));
        of("NONE if one can't be (told already), or there are ten.");
        int[] wrong = {60, 61, -2, LOW, HIGH};
        for (int v : wrong) {
            due("step " + v, NONE, x.step(v));
        }
        due("that one alone", 1, x.steps(1));
        for (int i = 2; i <= 10; i++) {
            due("the number", i, x.step(i));
        }
        due("an eleventh", NONE, x.step(11));
        due("without it", 9, x.steps(1));
        due("none is then", 0, x.step(NONE));
        due("one again", 1, x.step(11));
    }

    private void steps() {
        of("STEPS what 0 how many threes, 1 the most in a row.");
        RockingPorch x = stair(0, 10, 20, 30);
        due("threes", 2, x.steps(0));
        due("in a row", 4, x.steps(1));
        of("NONE for another what.");
        int[] wrong = {2, -1, LOW, HIGH};
        for (int what : wrong) {
            due("what " + what, NONE, x.steps(what));
        }
    }

    private void coin() {
        of("A coin for SLIDE (NONE: none is then): how many;");
        RockingPorch x = new RockingPorch();
        due("none of none", 0, x.coin(NONE));
        due("one", 1, x.coin(40));
        due("two", 2, x.coin(0));
        due("none", 0, x.coin(NONE));
        due("no game", NONE, x.slide());
        due("one again", 1, x.coin(40));
        of("NONE if one can't be (told already), or there are six.");
        int[] wrong = {40, 41, -2, LOW, HIGH};
        for (int v : wrong) {
            due("coin " + v, NONE, x.coin(v));
        }
        due("that one alone", 4040, x.slide());
        for (int i = 2; i <= 6; i++) {
            due("the number", i, x.coin(i - 2));
        }
        due("a seventh", NONE, x.coin(39));
        due("without it", 4035, x.slide());
        due("none is then", 0, x.coin(NONE));
        due("one again", 1, x.coin(39));
    }

    private void slide() {
        of("SLIDE.");
        RockingPorch x = game(2, 3, 5, 8);
        due("it is won", 202, x.slide());
        due("it is not played", 202, x.slide());
        due("who begins loses", NONE, game(0, 1, 4, 5).slide());
    }
}
