import java.lang.management.ManagementFactory;

/** What objects and calls make stays small, for all calls of a run live in one room. */
public final class RoomTest {
    private static final Checks CHECKS = new Checks();
    private static final com.sun.management.ThreadMXBean THREADS =
        (com.sun.management.ThreadMXBean) ManagementFactory.getThreadMXBean();
    private static final String LARGEST = "field a from 0 to 7; field b from 0 to 7; field c from 0 to 7; field d from 0 to 7;"
        + "field e from 0 to 7;";

    /** The measure itself may make some bytes. */
    private static long made() {
        return THREADS.getCurrentThreadAllocatedBytes();
    }

    private static void atMost(String what, long bytes, long most) {
        CHECKS.due(what + ": " + bytes + " bytes, at most " + most, bytes <= most, true);
    }

    private static int all(LawfulLots x, int n) {
        x.turn(n % 8, n % 3 == 0);
        int answers = x.lawful() + x.kept() + x.value(n, 0) + x.share(n) + x.sum() + x.pick(n) + x.draw(n, n);
        answers += x.quarrel() + x.alone(n % 8) + x.meets(n % 8) + x.cross(n % 8, 0) + x.hits(n % 8) + x.fill() + x.fills(0);
        answers += x.best() + x.least(n % 8) + x.logged(0, 0) + x.fallen(0) + x.count(6);
        return answers + (int) x.rows(n % 11) + x.row(n % 11, n, 0);
    }

    /** Feeds without making anything itself. */
    private static void feedBlanks(LawfulLots x) {
        for (int n = 0; n < 100; n++) {
            x.feed(0x20202020, 0x20202020, 0x20202020, 0x20202020, 0x20202020);
        }
    }

    private static String eightOfEach() {
        StringBuilder text = new StringBuilder(LARGEST);
        for (int n = 0; n < 8; n++) {
            text.append("law a+b!=").append(n).append(";soft ").append(n).append(" c<=e;bin e==").append(n);
            text.append(" and d<c;next a<=old e;share b if d==").append(n).append(';');
        }
        return text.toString();
    }

    public static void main(String[] args) {
        made();
        new LawfulLots();
        Texts.lotsOf(LARGEST).lawful();
        long before = made();
        LawfulLots x = new LawfulLots();
        atMost("a new object", made() - before, 40000);
        Texts.read(x, eightOfEach());
        before = made();
        all(x, 0);
        atMost("the rows of the largest text", made() - before, 3 * 4 * 32768 + 1000);
        before = made();
        for (int n = 1; n < 24; n++) {
            all(x, n);
        }
        atMost("calls behind the first", made() - before, 400);
        before = made();
        feedBlanks(x);
        x.read();
        x.lawful();
        atMost("a text that is not larger", made() - before, 400);
        CHECKS.end();
    }
}
