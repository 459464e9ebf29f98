import java.lang.management.ManagementFactory;

/** All calls of a run live in one room: a new object is small, and no call makes anything. */
public final class RoomTest {
    private static final long MOST_BYTES_OF_AN_OBJECT = 64 * 1024;
    private static final long MOST_BYTES_OF_CALLS = 4096;
    private static int kept = 0;

    public static void main(String[] args) {
        Check check = new Check();
        // The first round loads classes, which takes room of its own.
        new RoomTest().round(new Check());
        new RoomTest().round(check);
        check.close("RoomTest");
    }

    private static long made() {
        return ((com.sun.management.ThreadMXBean) ManagementFactory.getThreadMXBean()).getThreadAllocatedBytes(Thread.currentThread().getId());
    }

    private void round(Check check) {
        long start = made();
        RockingPorch x = new RockingPorch();
        long object = made() - start;
        for (int i = 0; i < 10; i++) {
            x.chair(9);
        }
        for (int i = 0; i < 14; i++) {
            x.person(9);
        }
        int[] law = Check.words("swings 99;fades 0 when not (run < 3 and swing > 5 or draught = 1);jumps 1000;");
        int[] calls = Check.words("at 0 person 0 sit 0;at 1 person 0 go;at 2 person 0 come;");
        long before = made();
        for (int i = 0; i < 20; i++) {
            tell(x, 0, law);
            tell(x, 1, calls);
            all(x);
        }
        long later = made() - before;
        check.due("room of an object " + object, true, object < MOST_BYTES_OF_AN_OBJECT);
        check.due("room of the calls " + later, true, later < MOST_BYTES_OF_CALLS);
    }

    private static void tell(RockingPorch x, int k, int[] words) {
        for (int i = 0; i + 4 < words.length; i += 5) {
            x.feed(words[i], words[i + 1], words[i + 2], words[i + 3], words[i + 4]);
        }
        kept += x.text(k);
    }

    private static void all(RockingPorch x) {
        x.act(0, 1, 1);
        x.act(1, 1, 0);
        x.act(2, 1, 0);
        kept += x.minutes(30) + x.goes(60, 0) + x.seat() + x.of(0, 10) + x.who(0, 6) + x.book(0, 0) + x.look(2);
        x.undo();
        x.image(true);
        x.image(false);
        x.tick(1, 12);
        x.apart(0, 6);
        x.point(1, 2);
        x.weight(50);
        x.step(20);
        x.coin(30);
        kept += x.ticks(0) + x.seated(7, 0) + x.seated(7, 1) + x.line(0) + x.line(1) + x.rug(0) + x.stack(176543210, 0)
                + x.stack(176543210, 1) + x.trunks(99, 0) + x.trunks(99, 1) + x.throwing(511) + x.ahead(511, 510, 0)
                + x.hands(719, 1) + x.steps(0) + x.steps(1) + x.slide();
    }
}
