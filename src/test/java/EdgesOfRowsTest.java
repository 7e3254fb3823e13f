/** "IV" and promises 25 and 26: each sentence that names an edge of ROWS has a test of its own. */
public final class EdgesOfRowsTest {
    private static final Checks CHECKS = new Checks();
    private static final int[] NO_LENGTHS = {0, -1, 11, 12, 32, 64, 65536, Integer.MIN_VALUE, Integer.MAX_VALUE};

    private static LawfulLots lawful(int many) {
        LawfulLots x = Texts.lotsOf("field a from 0 to 99;law a<" + many + ";");
        CHECKS.due("LAWFUL", x.lawful(), many);
        return x;
    }

    private static long power(long base, int exponent) {
        long all = 1;
        for (int n = 0; n < exponent; n++) {
            all *= base;
        }
        return all;
    }

    private static void howManyLawful() {
        CHECKS.about("ROWS of LAWFUL INPUTS, when there are 1 .. 64:");
        for (int many : new int[] {0, 65, 66, 100}) {
            LawfulLots x = lawful(many);
            for (int length = 1; length <= 10; length++) {
                CHECKS.due("rows(" + length + ") of " + many, x.rows(length), -1);
                CHECKS.due("row(" + length + ", 0, 0) of " + many, x.row(length, 0, 0), -1);
            }
        }
        for (int many : new int[] {1, 2, 63, 64}) {
            LawfulLots x = lawful(many);
            for (int length = 1; length <= 10; length++) {
                long all = power(many, length);
                CHECKS.due("rows(" + length + ") of " + many, x.rows(length), all);
                CHECKS.due("the first of the first", x.row(length, 0, 0), 0);
                CHECKS.due("the first of the last", x.row(length, all - 1, 0), many - 1);
                CHECKS.due("the last of the last", x.row(length, all - 1, length - 1), many - 1);
                CHECKS.due("behind the last", x.row(length, all, 0), -1);
            }
        }
    }

    /** Of 64 INPUTS the last ones differ in what may come behind them. */
    private static void lastOfSixtyFour() {
        CHECKS.about("when there are 1 .. 64:");
        LawfulLots x = Texts.lotsOf("field a from 0 to 63;next old a<=a;");
        CHECKS.due("rows that never fall", x.rows(10), 621324937376L);
        CHECKS.due("the last begins with 63", x.row(10, 621324937375L, 0), 63);
        CHECKS.due("the one ahead begins with 62", x.row(10, 621324937374L, 0), 62);
        CHECKS.due("and goes on with 63", x.row(10, 621324937374L, 1), 63);
        LawfulLots y = Texts.lotsOf("field a from 0 to 63;next a!=63;");
        CHECKS.due("63 behind none", y.rows(2), 64 * 63);
        LawfulLots w = Texts.lotsOf("field a from 0 to 64;law a!=0;next a!=1;");
        CHECKS.due("the first LAWFUL one behind none", w.rows(2), 64 * 63);
        LawfulLots z = Texts.lotsOf("field a from 0 to 63;next a==63 or old a==63;");
        CHECKS.due("63 behind all, all behind 63", z.rows(2), 127);
        CHECKS.due("the last", z.row(2, 126, 1), 63);
        CHECKS.due("62 63", z.row(2, 62, 0), 62);
    }

    private static void lawfulOnesChange() {
        CHECKS.about("when there are 1 .. 64:");
        LawfulLots x = Texts.lotsOf("field a from 0 to 64;law 0<a;law a<0;next a==old a;");
        CHECKS.due("none", x.rows(1), -1);
        x.turn(1, false);
        CHECKS.due("64", x.rows(2), 64);
        CHECKS.due("the last of them", x.row(2, 63, 1), 63);
        x.turn(0, false);
        CHECKS.due("65", x.rows(2), -1);
        CHECKS.due("65", x.row(2, 0, 0), -1);
        x.turn(0, true);
        CHECKS.due("64 again", x.rows(10), 64);
        CHECKS.due("the last of them", x.row(10, 63, 9), 63);
    }

    private static void behindTheFirst() {
        CHECKS.about("each one behind the first has all nexts hold of it and the one ahead.");
        LawfulLots x = Texts.lotsOf("field a from 0 to 2;next 1==2;");
        CHECKS.due("the first needs no next", x.rows(1), 3);
        CHECKS.due("none of two", x.rows(2), 0);
        CHECKS.due("none of ten", x.rows(10), 0);
        CHECKS.due("no ROW 0 of two", x.row(2, 0, 0), -1);
        CHECKS.due("ROW 2 of one", x.row(1, 2, 0), 2);
        LawfulLots y = Texts.lotsOf("field a from 0 to 9;" + "next 1==1;".repeat(6) + "next a<=old a+1;next old a<a;");
        CHECKS.due("all of eight nexts: 01 .. 89", y.rows(2), 9);
        CHECKS.due("0 .. 9", y.rows(10), 1);
        for (int k = 0; k < 10; k++) {
            CHECKS.due("ROW 0 of ten, its " + k, y.row(10, 0, k), k);
        }
        CHECKS.due("no ROW 1 of ten", y.row(10, 1, 0), -1);
        LawfulLots z = Texts.lotsOf("field a from 0 to 3;law a!=1;next a!=old a+1 and old a!=a;");
        CHECKS.due("02 03 20 30 32", z.rows(2), 5);
        CHECKS.due("by LAWFUL numbers: 32", z.row(2, 4, 0), 2);
        CHECKS.due("by LAWFUL numbers: 32", z.row(2, 4, 1), 1);
    }

    private static int number(int[] digits) {
        int all = 0;
        for (int digit : digits) {
            all = all * 10 + digit;
        }
        return all;
    }

    /** All rows of digits 0 .. 4, in their order, of which no one is twice or more the one ahead. */
    private static void ordered() {
        CHECKS.about("ROWS of a length (1 .. 10) are ordered by their first INPUT's number, then the second's, and so on.");
        LawfulLots x = Texts.lotsOf("field a from 0 to 4;next a<2*old a;");
        int[] digits = new int[4];
        long r = 0;
        for (int n = 0; n < 625; n++) {
            int rest = n;
            for (int p = 3; p >= 0; p--) {
                digits[p] = rest % 5;
                rest /= 5;
            }
            if (digits[1] < 2 * digits[0] && digits[2] < 2 * digits[1] && digits[3] < 2 * digits[2]) {
                int[] told = {x.row(4, r, 0), x.row(4, r, 1), x.row(4, r, 2), x.row(4, r, 3)};
                CHECKS.due("ROW " + r, number(told), number(digits));
                r++;
            }
        }
        CHECKS.due("so many", x.rows(4), r);
        CHECKS.due("no more", x.row(4, r, 0), -1);
    }

    private static void rowsNone() {
        CHECKS.about("How many ROWS of a length (1 .. 10) there are; -1: no such length, or not 1 .. 64 LAWFUL.");
        LawfulLots x = lawful(3);
        CHECKS.due("the least length", x.rows(1), 3);
        CHECKS.due("the greatest length", x.rows(10), 59049);
        for (int length : NO_LENGTHS) {
            CHECKS.due("rows(" + length + ")", x.rows(length), -1);
        }
        CHECKS.due("none LAWFUL", lawful(0).rows(1), -1);
        CHECKS.due("one", lawful(1).rows(10), 1);
        CHECKS.due("64", lawful(64).rows(10), 1L << 60);
        CHECKS.due("65", lawful(65).rows(1), -1);
        CHECKS.due("a new object", new LawfulLots().rows(10), 1);
        CHECKS.due("a new object", new LawfulLots().rows(11), -1);
    }

    private static void rowNone() {
        CHECKS.about("The k-th INPUT (0 .. length - 1) of ROW r (0 or more) of a length; NONE: not so many, no such ones.");
        LawfulLots x = lawful(3);
        for (int length : NO_LENGTHS) {
            CHECKS.due("row(" + length + ", 0, 0)", x.row(length, 0, 0), -1);
        }
        for (int length = 1; length <= 10; length++) {
            int last = length;
            Spans.due(CHECKS, "row of length " + length, k -> x.row(last, power(3, last) - 2, k), 0, length - 1,
                length == 1 ? 1 : 2, 1);
        }
        for (long r : new long[] {-1, Long.MIN_VALUE, Long.MIN_VALUE + 1, 27, 28, 1L << 32, (1L << 32) + 1, 1L << 62, Long.MAX_VALUE}) {
            CHECKS.due("row(3, " + r + ", 0)", x.row(3, r, 0), -1);
            CHECKS.due("row(3, " + r + ", 2)", x.row(3, r, 2), -1);
        }
        CHECKS.due("the first ROW", x.row(3, 0, 2), 0);
        CHECKS.due("the last ROW", x.row(3, 26, 2), 2);
    }

    private static void greatNumbers() {
        CHECKS.about("ROW r (0 or more)");
        LawfulLots x = lawful(64);
        long r = 0x0123456789abcdeL;
        for (int k = 0; k < 10; k++) {
            CHECKS.due("its " + k, x.row(10, r, k), r >> 6 * (9 - k) & 63);
        }
        CHECKS.due("the last", x.row(10, (1L << 60) - 1, 9), 63);
        CHECKS.due("behind it", x.row(10, 1L << 60, 9), -1);
        CHECKS.due("far behind it", x.row(10, (1L << 60) + (1L << 32), 0), -1);
        CHECKS.due("the greatest long", x.row(10, Long.MAX_VALUE, 0), -1);
        CHECKS.due("the least long", x.row(10, Long.MIN_VALUE, 0), -1);
    }

    public static void main(String[] args) {
        howManyLawful();
        lastOfSixtyFour();
        lawfulOnesChange();
        behindTheFirst();
        ordered();
        rowsNone();
        rowNone();
        greatNumbers();
        CHECKS.end();
    }
}
