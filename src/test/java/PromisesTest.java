import java.nio.charset.StandardCharsets;

/** The promises one by one, with answers worked out by hand. */
public final class PromisesTest {
    private static final Checks CHECKS = new Checks();

    private static void due(String what, long got, long want) {
        CHECKS.due(what, got, want);
    }

    private static void due(String what, boolean got, boolean want) {
        CHECKS.due(what, got, want);
    }

    private static void newObject() {
        LawfulLots x = new LawfulLots();
        long[] counts = {0, 0, 0, 0, 0, 0, 1, 0, 0};
        for (int what = 0; what < counts.length; what++) {
            due("1: count(" + what + ")", x.count(what), counts[what]);
        }
        due("1: value", x.value(0, 0), -1);
        due("1: share", x.share(0), 1);
        due("1: hits", x.hits(0), -1);
        due("1: fills", x.fills(0), -1);
        due("1: rows", x.rows(10), 1);
        due("1: draw", x.draw(5, 5), 0);
        due("1: log", x.count(7), 1);
        due("1: logged", x.logged(0, 0), -1);
    }

    private static void tape() {
        LawfulLots x = new LawfulLots();
        for (int n = 1; n <= 100; n++) {
            due("2: feed", x.feed(0x20202020, 0x09090909, 0x0a0a0a0a, 0x0d0d0d0d, 0x20202020), n * 20);
        }
        due("2: feed beyond", x.feed(0, 0, 0, 0, 0), -1);
        due("2: nothing came", x.count(8), 2000);
        due("3: back too far", x.back(2001), -1);
        due("3: back below 0", x.back(-1), -1);
        due("3: back least int", x.back(Integer.MIN_VALUE), -1);
        due("3: nothing went", x.count(8), 2000);
        due("3: back 0", x.back(0), 2000);
        due("3: back 19", x.back(19), 1981);
        due("2: feed does not fit", x.feed(0, 0, 0, 0, 0), -1);
        due("3: back 1", x.back(1), 1980);
        due("2: feed fits", x.feed(0x20202020, 0x20202020, 0x20202020, 0x20202020, 0x20202020), 2000);
        due("4: blanks", x.read(), 0);
        due("4: tape is empty", x.count(8), 0);
        due("3: back of nothing", x.back(1), -1);
        x.feed(0, 0, 0, 0, 0);
        due("3: back of all", x.back(20), 0);
        x.feed(0xff202020, 0x20202020, 0x20202020, 0x20202020, 0x20202020);
        due("2: the highest byte first", x.read(), 1);
        due("5: place", x.place(), 0);
        Texts.feed(x, "law 1 == 1; law 1 == 1;".getBytes(StandardCharsets.ISO_8859_1));
        due("3: back", x.back(12), 11);
        due("4: what is left", x.read(), 0);
        due("5: place without", x.place(), -1);
        due("4: one law", x.count(1), 1);
    }

    private static void arithmetic() {
        LawfulLots x = Texts.lotsOf("field a from 2 to 3; bin a + 2 * 3 == 8; bin (a + 2) * 3 == 12; bin 9 - 4 - 3 == a;"
            + "bin 9999 * 9999 * 9999 < 0; bin 1 - a < 0; bin not a == 2 and a == 3; bin a == 2 or a == 3 and a == 2;"
            + "bin not not a <= 2 or 1 != 1;");
        long[] met = {1, 1, 1, 2, 2, 1, 1, 1};
        for (int bin = 0; bin < met.length; bin++) {
            due("16: arithmetic, bin " + bin, x.meets(bin), met[bin]);
        }
        LawfulLots y = Texts.lotsOf("field a from 9999 to 9999; bin a * a * 30 < 0; bin a * a * 20 < 0;"
            + " bin 0 - 8000 * 8000 * 40 < 0 - 1; bin 4096 * 4096 * 256 == 0;");
        due("16: wraps below 0", y.meets(0), 1);
        due("16: does not wrap yet", y.meets(1), 0);
        due("16: wraps and turns", y.meets(2), 0);
        due("16: wraps to 0", y.meets(3), 1);
    }

    private static void turning() {
        LawfulLots x = Texts.lotsOf("field a from 0 to 9; law a < 4; law 2 < a; law a != 3;");
        due("6: law below", x.turn(-1, false), false);
        due("6: law beyond", x.turn(3, false), false);
        due("6: law far beyond", x.turn(32, false), false);
        due("6: is so", x.turn(1, true), false);
        due("7: none", x.lawful(), 0);
        due("6: off", x.turn(2, false), true);
        due("6: is off", x.turn(2, false), false);
        due("7: one", x.lawful(), 1);
        due("9: it", x.value(0, 0), 3);
        due("6: off", x.turn(0, false), true);
        due("7: seven", x.lawful(), 7);
        due("6: off", x.turn(1, false), true);
        due("7: all", x.lawful(), 10);
        due("6: on", x.turn(1, true), true);
        due("7: seven again", x.lawful(), 7);
        due("4: faulty text", Texts.read(x, "law"), 1);
        due("6: stays off", x.turn(0, false), false);
        due("4: new text", Texts.read(x, "field a from 0 to 9; law a < 4;"), 0);
        due("4: all laws are ON", x.turn(0, true), false);
        due("7: by the new text", x.lawful(), 4);
    }

    private static void keeping() {
        LawfulLots x = Texts.lotsOf("field a from 0 to 9; soft 1 a == 1; soft 5 a < 5; soft 5 4 < a; soft 7 a != 1;");
        due("8: greatest first, then the lesser number", x.kept(), 2 | 8);
        due("7: 0 2 3 4", x.lawful(), 4);
        LawfulLots y = Texts.lotsOf("law 1 == 2; soft 3 1 == 1;");
        due("8: no LAWFUL one, none KEPT", y.kept(), 0);
        y.turn(0, false);
        due("8: some LAWFUL one", y.kept(), 1);
        LawfulLots z = Texts.lotsOf("field a from 0 to 3; law a != 2; soft 2 a == 2; soft 1 a < 3; soft 1 a == 3;");
        due("8: law in the way", z.kept(), 2);
        z.turn(0, false);
        due("8: law OFF", z.kept(), 3);
        due("7: law OFF", z.lawful(), 1);
        LawfulLots w = Texts.lotsOf("soft 0 1 == 1; soft 9999 1 == 2; soft 10 1 == 1;");
        due("8: by number, not by bytes", w.kept(), 5);
    }

    private static void values() {
        LawfulLots x = Texts.lotsOf("field a from 1 to 2; field b from 5 to 7; law a != 1 or b != 6;");
        int[][] want = {{1, 5}, {1, 7}, {2, 5}, {2, 6}, {2, 7}};
        for (int k = 0; k < 5; k++) {
            due("9: a of " + k, x.value(k, 0), want[k][0]);
            due("9: b of " + k, x.value(k, 1), want[k][1]);
        }
        due("9: k beyond", x.value(5, 0), -1);
        due("9: k below", x.value(-1, 0), -1);
        due("9: field beyond", x.value(0, 2), -1);
        due("9: field below", x.value(0, -1), -1);
        due("9: far", x.value(Integer.MAX_VALUE, Integer.MIN_VALUE), -1);
        LawfulLots y = Texts.lotsOf("field a from 0 to 31; field b from 0 to 1023;");
        due("7: as many as can be", y.lawful(), 32768);
        due("9: the last of them, a", y.value(32767, 0), 31);
        due("9: the last of them, b", y.value(32767, 1), 1023);
        due("11: their sum", y.sum(), 32768);
        due("12: the last of them", y.pick(32767), 32767);
        due("25: too many for rows", y.rows(1), -1);
        due("26: too many for rows", y.row(1, 0, 0), -1);
    }

    private static void sharing() {
        LawfulLots x = Texts.lotsOf("field a from 0 to 5; share 0 - 7 if a == 1; share a * 999 if a < 3; share 4 if a == 3;"
            + "share 9999 if a == 3 or a == 4;");
        long[] shares = {0, 0, 1000, 4, 1000, 1};
        for (int k = 0; k < 6; k++) {
            due("10: share " + k, x.share(k), shares[k]);
        }
        due("10: beyond", x.share(6), -1);
        due("10: below", x.share(-1), -1);
        due("11: sum", x.sum(), 2005);
        int[][] picks = {{0, 2}, {999, 2}, {1000, 3}, {1003, 3}, {1004, 4}, {2003, 4}, {2004, 5}, {2005, -1}, {-1, -1}};
        for (int[] pick : picks) {
            due("12: pick " + pick[0], x.pick(pick[0]), pick[1]);
        }
        due("12: pick far", x.pick(Integer.MAX_VALUE), -1);
        LawfulLots y = Texts.lotsOf("field a from 0 to 5; share 2; share 100;");
        due("10: without COND", y.share(5), 2);
        LawfulLots z = Texts.lotsOf("field a from 0 to 999; share 1000;");
        due("11: great sum", z.sum(), 1000000);
        due("12: great number", z.pick(999999), 999);
        due("12: in the midst", z.pick(640000 - 1), 639);
        due("12: behind it", z.pick(640000), 640);
    }

    private static long drawing(long seed, int i, long sum) {
        long w = (seed * 31L + i + 1L) * 2862933555777941757L;
        long v = w ^ (w >>> 29);
        return (v >>> 1) % sum;
    }

    private static void draws() {
        LawfulLots x = Texts.lotsOf("field a from 0 to 99; bin a < 50; bin 99 < a;");
        long[] seeds = {0, 1, -1, 12345678901L, Long.MAX_VALUE, Long.MIN_VALUE};
        int[] counts = {0, 1, 77, Integer.MAX_VALUE};
        int drawn = 0;
        int low = 0;
        for (long seed : seeds) {
            for (int i : counts) {
                long want = drawing(seed, i, 100);
                due("13: draw(" + seed + ", " + i + ")", x.draw(seed, i), want);
                due("23: logged", x.logged(drawn, 0), want);
                drawn++;
                low += want < 50 ? 1 : 0;
                due("27: in the LOG", x.count(7), drawn);
            }
        }
        due("18: hits", x.hits(0), low);
        due("18: no hits", x.hits(1), 0);
        due("13: no such count", x.draw(1, -1), -1);
        due("13: no such count", x.draw(1, Integer.MIN_VALUE), -1);
        due("13: nothing came", x.count(7), drawn);
        for (int i = drawn; i < 200; i++) {
            x.draw(3, i);
        }
        due("13: the LOG is full", x.count(7), 200);
        due("13: drawn all the same", x.draw(3, 200), drawing(3, 200, 100));
        due("13: no room", x.count(7), 200);
        due("23: the last", x.logged(199, 0), drawing(3, 199, 100));
        due("23: beyond", x.logged(200, 0), -1);
        due("23: below", x.logged(-1, 0), -1);
        due("23: no such field", x.logged(0, 1), -1);
        due("23: no such field", x.logged(0, -1), -1);
        LawfulLots y = Texts.lotsOf("field a from 0 to 3; share 0;");
        due("11: sum 0", y.sum(), 0);
        due("12: no number", y.pick(0), -1);
        due("13: sum 0", y.draw(1, 1), -1);
        due("13: nothing came", y.count(7), 0);
    }

    private static void quarrels() {
        LawfulLots x = Texts.lotsOf("field a from 0 to 9; law a < 5; law 4 < a; law a != 9; law a < 3; law 7 < a; law a == 5;");
        due("14: {0, 1} ahead of {0, 4}, {1, 3}", x.quarrel(), 3);
        x.turn(0, false);
        due("14: {1, 3} ahead of {3, 4}", x.quarrel(), 2 | 8);
        x.turn(1, false);
        due("14: {3, 4}", x.quarrel(), 8 | 16);
        x.turn(3, false);
        due("14: {4, 5}", x.quarrel(), 16 | 32);
        x.turn(4, false);
        due("14: none", x.quarrel(), -1);
        LawfulLots y = Texts.lotsOf("field a from 0 to 2; law a != 0; law a != 1; law a != 2; law 1 == 1; soft 3 1 == 2;");
        due("14: three", y.quarrel(), 7);
        y.turn(2, false);
        due("14: soft ones do not matter", y.quarrel(), -1);
        LawfulLots z = Texts.lotsOf("law 1 == 1; law 1 == 2; law 2 == 1;");
        due("14: one alone", z.quarrel(), 2);
        due("14: without laws", new LawfulLots().quarrel(), -1);
        LawfulLots w = Texts.lotsOf("field a from 0 to 3; law a != 0; law a < 1 or a == 2; law a == 0 or a == 3; law a == 1;");
        due("14: {0, 3} would stand, {1, 3} not", w.quarrel(), 2 | 8);
    }

    private static void alones() {
        LawfulLots x = Texts.lotsOf("field a from 0 to 9; law a < 7; law 1 < a; law a != 8; soft 1 a == 5;");
        due("15: 7 and 9", x.alone(0), 2);
        due("15: 0 and 1", x.alone(1), 2);
        due("15: none", x.alone(2), 0);
        due("15: beyond", x.alone(3), -1);
        due("15: below", x.alone(-1), -1);
        due("15: far", x.alone(32), -1);
        x.turn(0, false);
        due("15: not ON", x.alone(0), -1);
        due("15: 8", x.alone(2), 1);
    }

    private static void bins() {
        LawfulLots x = Texts.lotsOf("field a from 0 to 9; law a != 4; bin a < 5; bin 2 < a; bin 8 < a; bin a == 4;");
        long[] met = {4, 6, 1, 0};
        for (int bin = 0; bin < 4; bin++) {
            due("16: meets", x.meets(bin), met[bin]);
            due("17: cross with itself", x.cross(bin, bin), met[bin]);
        }
        due("16: beyond", x.meets(4), -1);
        due("16: below", x.meets(-1), -1);
        due("16: far", x.meets(32), -1);
        due("17: cross", x.cross(0, 1), 1);
        due("17: other way", x.cross(1, 0), 1);
        due("17: cross of none", x.cross(0, 2), 0);
        due("17: beyond", x.cross(0, 4), -1);
        due("17: beyond", x.cross(4, 0), -1);
        due("17: below", x.cross(-1, 0), -1);
        due("18: beyond", x.hits(4), -1);
        due("18: below", x.hits(-1), -1);
        x.turn(0, false);
        due("16: of the new LAWFUL ones", x.meets(3), 1);
    }

    private static void fillsAndBest() {
        LawfulLots x = Texts.lotsOf("field a from 0 to 3; bin a == 0 or a == 2; bin a == 0 or a == 3; bin a == 1 or a == 2;"
            + "bin a == 1 or a == 3; bin a == 7;");
        due("19: fewest", x.fill(), 2);
        due("20: the first of them", x.fills(0), 0);
        due("20: rising", x.fills(1), 1);
        due("20: not so many", x.fills(2), -1);
        due("20: below", x.fills(-1), -1);
        due("21: the first of alike ones", x.best(), 0);
        x.draw(0, 0);
        int met = x.logged(0, 0);
        due("19: what the LOG meets is not asked for", x.fill(), 1);
        due("20: the other one", x.fills(0), new int[] {1, 0, 3, 2}[met]);
        due("21: the other one", x.best(), new int[] {1, 0, 3, 2}[met]);
        x.draw(0, 1);
        LawfulLots y = Texts.lotsOf("field a from 0 to 4; bin a == 0; bin a == 1 or a == 3; bin a == 2 or a == 3; bin a == 4;");
        due("19: greedy or not", y.fill(), 3);
        due("20: 0", y.fills(0), 0);
        due("20: 3", y.fills(1), 3);
        due("20: 4", y.fills(2), 4);
        due("21: two at once", y.best(), 3);
        LawfulLots z = Texts.lotsOf("field a from 0 to 7; bin a == 0; bin a == 1; bin a == 2; bin a == 3; bin a == 4; bin a == 5;"
            + "bin a == 6; bin a == 7;");
        due("19: eight", z.fill(), 8);
        for (int i = 0; i < 8; i++) {
            due("20: one by one", z.fills(i), i);
        }
        due("20: no ninth", z.fills(8), -1);
        LawfulLots v = Texts.lotsOf("field a from 0 to 3; bin a == 3; bin a == 1; bin a == 2;");
        due("21: the first of alike ones that meet other bins", v.best(), 1);
        LawfulLots w = Texts.lotsOf("law 1 == 2; bin 1 == 1;");
        due("19: all DEAD", w.fill(), 0);
        due("20: all DEAD", w.fills(0), -1);
        due("21: none LAWFUL", w.best(), -1);
        w.turn(0, false);
        due("19: not DEAD", w.fill(), 1);
        due("21: LAWFUL", w.best(), 0);
    }

    private static void leasts() {
        LawfulLots x = Texts.lotsOf("field a from 5 to 7; field b from 100 to 103; field c from 0 to 2; bin a + b + c == 107;"
            + "bin a == 7 or b == 101 and c == 1; bin a == 9; bin c == 2 or b == 102; law a != 5 or b != 100;");
        // Heights are a - 5, b - 100, c. Bin 3: (5, 101, 2) has 3, (5, 102, 0) has 2.
        int at = x.least(3);
        due("22: a", x.value(at, 0), 5);
        due("22: b", x.value(at, 1), 102);
        due("22: c", x.value(at, 2), 0);
        int first = x.least(1);
        due("22: of alike ones the first, a", x.value(first, 0), 5);
        due("22: of alike ones the first, b", x.value(first, 1), 101);
        due("22: of alike ones the first, c", x.value(first, 2), 1);
        due("22: no LAWFUL one", x.least(2), -1);
        due("22: no such bin", x.least(4), -1);
        due("22: no such bin", x.least(-1), -1);
        due("22: no such bin", x.least(35), -1);
    }

    private static void fallenOnes() {
        LawfulLots x = Texts.lotsOf("field a from 0 to 9; law a < 5; soft 2 a == 3; soft 9 a == 7;");
        x.turn(0, false);
        due("8: 7 is KEPT", x.kept(), 2);
        x.draw(1, 0);
        due("23: 7", x.logged(0, 0), 7);
        due("24: not FALLEN", x.fallen(0), -1);
        x.turn(0, true);
        due("24: FALLEN by a law", x.fallen(0), 0);
        x.draw(1, 0);
        due("23: 3", x.logged(1, 0), 3);
        due("24: one alone", x.fallen(1), -1);
        due("24: below", x.fallen(-1), -1);
        x.turn(0, false);
        due("24: FALLEN by a soft one", x.fallen(0), 1);
        due("24: not so many", x.fallen(1), -1);
        due("4: a new text", Texts.read(x, ""), 0);
        due("24: the LOG is empty", x.fallen(0), -1);
    }

    private static void rows() {
        LawfulLots x = Texts.lotsOf("field a from 0 to 63; next a <= old a + 1; next old a <= a;");
        due("25: length 1", x.rows(1), 64);
        due("25: length 2", x.rows(2), 127);
        due("26: 0", x.row(2, 126, 0), 63);
        due("26: 1", x.row(2, 126, 1), 63);
        due("26: 0", x.row(2, 3, 0), 1);
        due("26: 1", x.row(2, 3, 1), 2);
        due("26: beyond", x.row(2, 127, 0), -1);
        due("25: too short", x.rows(0), -1);
        due("25: too long", x.rows(11), -1);
        due("26: too short", x.row(0, 0, 0), -1);
        due("26: too long", x.row(11, 0, 0), -1);
        due("26: row below", x.row(2, -1, 0), -1);
        due("26: k below", x.row(2, 0, -1), -1);
        due("26: k beyond", x.row(2, 0, 2), -1);
        LawfulLots y = Texts.lotsOf("field a from 0 to 63;");
        due("25: as many as can be", y.rows(10), 1L << 60);
        due("26: the last", y.row(10, (1L << 60) - 1, 9), 63);
        due("26: behind the last", y.row(10, 1L << 60, 0), -1);
        due("26: far", y.row(10, Long.MAX_VALUE, 0), -1);
        due("26: in the midst", y.row(10, 5L << 54, 0), 5);
        due("26: in the midst", y.row(10, (5L << 54) + 77, 8), 1);
        due("26: in the midst", y.row(10, (5L << 54) + 77, 9), 13);
        due("4: one too many", Texts.read(y, "field a from 0 to 64; law a != 0;"), 0);
        due("25: 64", y.rows(1), 64);
        y.turn(0, false);
        due("25: 65", y.rows(1), -1);
        due("4: none LAWFUL", Texts.read(y, "field a from 0 to 2; law 1 == 2;"), 0);
        due("25: none LAWFUL", y.rows(1), -1);
        due("26: none LAWFUL", y.row(1, 0, 0), -1);
        due("4: dead ends", Texts.read(y, "field a from 0 to 2; next old a < a;"), 0);
        due("25: 012", y.rows(3), 1);
        due("25: none", y.rows(4), 0);
        due("26: none", y.row(4, 0, 0), -1);
        due("26: 012", y.row(3, 0, 2), 2);
        due("26: 02", y.row(2, 1, 1), 2);
    }

    private static void counts() {
        LawfulLots x = Texts.lotsOf("field a from 0 to 1; field b from 0 to 2; law 1 == 1; law 1 == 1; law 1 == 1;"
            + "soft 1 1 == 1; bin 1 == 1; bin 1 == 1; next 1 == 1; share 1; share 1; share 1; share 1;");
        long[] want = {2, 3, 1, 2, 1, 4, 6, 0, 0};
        for (int what = 0; what < want.length; what++) {
            due("27: count(" + what + ")", x.count(what), want[what]);
        }
        x.draw(0, 0);
        x.feed(1, 2, 3, 4, 5);
        due("27: in the LOG", x.count(7), 1);
        due("27: bytes", x.count(8), 20);
        due("27: below", x.count(-1), -1);
        due("27: beyond", x.count(9), -1);
        due("27: far", x.count(Integer.MIN_VALUE), -1);
    }

    public static void main(String[] args) {
        newObject();
        tape();
        arithmetic();
        turning();
        keeping();
        values();
        sharing();
        draws();
        quarrels();
        alones();
        bins();
        fillsAndBest();
        leasts();
        fallenOnes();
        rows();
        counts();
        CHECKS.end();
    }
}
