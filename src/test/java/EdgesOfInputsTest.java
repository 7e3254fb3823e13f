import java.math.BigInteger;

/** "II" and promises 6 to 15: each sentence that names an edge of INPUTS, laws, SHARES and drawing has a test of its own. */
public final class EdgesOfInputsTest {
    private static final Checks CHECKS = new Checks();
    private static final int LEAST_INT = Integer.MIN_VALUE;
    private static final int GREATEST_INT = Integer.MAX_VALUE;

    private static void ordered() {
        CHECKS.about("a value for each FIELD, from .. to; ordered by FIELD 0's, then FIELD 1's, and so on.");
        LawfulLots x = Texts.lotsOf("field c from 9998 to 9999;field a from 5 to 5;field b from 0 to 2;");
        int k = 0;
        for (int c = 9998; c <= 9999; c++) {
            for (int b = 0; b <= 2; b++) {
                CHECKS.due("FIELD 0 of " + k, x.value(k, 0), c);
                CHECKS.due("FIELD 1 of " + k, x.value(k, 1), 5);
                CHECKS.due("FIELD 2 of " + k, x.value(k, 2), b);
                k++;
            }
        }
        CHECKS.due("no more", x.lawful(), k);
    }

    private static void withoutFields() {
        CHECKS.about("(Without FIELDS there is one.)");
        LawfulLots x = Texts.lotsOf("law 1==1;soft 1 1==1;bin 1==1;bin 1==2;share 7;next 1==1;");
        CHECKS.due("INPUTS", x.count(6), 1);
        CHECKS.due("lawful()", x.lawful(), 1);
        CHECKS.due("kept()", x.kept(), 1);
        CHECKS.due("value(0, 0)", x.value(0, 0), -1);
        CHECKS.due("sum()", x.sum(), 7);
        CHECKS.due("pick(6)", x.pick(6), 0);
        CHECKS.due("draw(1, 1)", x.draw(1, 1), 0);
        CHECKS.due("in the LOG", x.count(7), 1);
        CHECKS.due("logged(0, 0)", x.logged(0, 0), -1);
        CHECKS.due("hits(0)", x.hits(0), 1);
        CHECKS.due("least(0)", x.least(0), 0);
        CHECKS.due("least(1)", x.least(1), -1);
        CHECKS.due("alone(0)", x.alone(0), 0);
        CHECKS.due("rows(10)", x.rows(10), 1);
        CHECKS.due("row(10, 0, 9)", x.row(10, 0, 9), 0);
        LawfulLots y = Texts.lotsOf("law 1==2;next 1==2;");
        CHECKS.due("none LAWFUL", y.lawful(), 0);
        CHECKS.due("alone(0)", y.alone(0), 1);
        CHECKS.due("quarrel()", y.quarrel(), 1);
        y.turn(0, false);
        CHECKS.due("one LAWFUL", y.lawful(), 1);
        CHECKS.due("a row of one needs no next", y.rows(1), 1);
        CHECKS.due("none of two", y.rows(2), 0);
    }

    private static void lawfulByAllThatAreOn() {
        CHECKS.about("An INPUT is LAWFUL if all laws that are ON hold of it, and all soft ones that are KEPT.");
        StringBuilder text = new StringBuilder("field a from 0 to 9;");
        for (int n = 0; n < 8; n++) {
            text.append("law a!=").append(n).append(';');
        }
        LawfulLots x = Texts.lotsOf(text + "soft 1 a!=9;");
        CHECKS.due("8 alone", x.lawful(), 1);
        for (int law = 7; law >= 0; law--) {
            x.turn(law, false);
            CHECKS.due("law " + law + " is OFF too", x.lawful(), 9 - law);
            CHECKS.due("the first is it", x.value(0, 0), law);
        }
        CHECKS.due("9 never", x.value(8, 0), 8);
        CHECKS.due("no 10th", x.value(9, 0), -1);
    }

    /** Laws that look at the first FIELD, at the last, at both, at none. */
    private static void lawsOverSomeFields() {
        CHECKS.about("all laws that are ON hold of it");
        String[] laws = {"a!=1", "c!=1", "a<=c", "1==1", "b==0 or c==2", "1==2"};
        String fields = "field a from 0 to 2;field b from 0 to 1;field c from 0 to 2;";
        int[] lawful = {12, 12, 12, 18, 12, 0};
        for (int n = 0; n < laws.length; n++) {
            LawfulLots x = Texts.lotsOf(fields + "law " + laws[n] + ";");
            CHECKS.due("lawful() by " + laws[n], x.lawful(), lawful[n]);
            LawfulLots y = Texts.lotsOf(fields + "law 1==1;soft 1 " + laws[n] + ";bin " + laws[n] + ";");
            CHECKS.due("lawful() by soft " + laws[n], y.lawful(), lawful[n] == 0 ? 18 : lawful[n]);
            CHECKS.due("meets() of " + laws[n], y.meets(0), lawful[n]);
        }
        LawfulLots z = Texts.lotsOf(fields + "law a!=1;law c!=1;law b==0;");
        int[] numbers = {0, 2, 200, 202};
        for (int k = 0; k < numbers.length; k++) {
            CHECKS.due("LAWFUL INPUT " + k, z.value(k, 0) * 100 + z.value(k, 1) * 10 + z.value(k, 2), numbers[k]);
        }
        CHECKS.due("no more", z.lawful(), 4);
    }

    private static void greatestFirst() {
        CHECKS.about("looked at by their INTS, the greatest first, of the same the lesser number:");
        CHECKS.due("the greatest", Texts.lotsOf("field a from 0 to 2;soft 1 a==0;soft 3 a==1;soft 2 a==2;").kept(), 2);
        CHECKS.due("the lesser number", Texts.lotsOf("field a from 0 to 2;soft 3 a==0;soft 3 a==1;soft 2 a==2;").kept(), 1);
        CHECKS.due("9999 ahead of 0", Texts.lotsOf("field a from 0 to 1;soft 0 a==0;soft 9999 a==1;").kept(), 2);
        CHECKS.due("10 ahead of 9", Texts.lotsOf("field a from 0 to 1;soft 9 a==0;soft 10 a==1;").kept(), 2);
        CHECKS.due("0 is looked at too", Texts.lotsOf("field a from 0 to 1;soft 0 a==0;").kept(), 1);
        CHECKS.due("of eight the last", Texts.lotsOf("field a from 0 to 7;" + "soft 1 a==0;".repeat(7) + "soft 2 a==7;").kept(), 128);
        CHECKS.due("of eight the first", Texts.lotsOf("field a from 0 to 7;soft 1 a==0;" + "soft 1 a==7;".repeat(7)).kept(), 1);
    }

    private static void keptIfSomeInput() {
        CHECKS.about("one is KEPT if some INPUT is LAWFUL by laws that are ON, those KEPT so far, and it");
        CHECKS.due("no INPUT", Texts.lotsOf("field a from 0 to 1;soft 1 a==2;").kept(), 0);
        CHECKS.due("all LAWFUL then", Texts.lotsOf("field a from 0 to 1;soft 1 a==2;").lawful(), 2);
        CHECKS.due("all eight", Texts.lotsOf("field a from 0 to 9;" + "soft 1 a<5;soft 1 2<a;".repeat(4)).kept(), 255);
        CHECKS.due("no soft ones", Texts.lotsOf("field a from 0 to 9;").kept(), 0);
        LawfulLots x = Texts.lotsOf("field a from 0 to 3;law a!=3;soft 9 a==3;soft 5 1<a;soft 4 a!=2;soft 3 a==2;");
        CHECKS.due("a law that is ON", x.kept(), 2 | 8);
        CHECKS.due("2", x.value(0, 0), 2);
        x.turn(0, false);
        CHECKS.due("the law is OFF", x.kept(), 1 | 2 | 4);
        CHECKS.due("3", x.value(0, 0), 3);
    }

    private static void noneKept() {
        CHECKS.about("(if none is LAWFUL by laws alone, none is KEPT)");
        LawfulLots x = Texts.lotsOf("field a from 0 to 3;law a==4;soft 9 1==1;soft 1 a==1;");
        CHECKS.due("kept()", x.kept(), 0);
        CHECKS.due("lawful()", x.lawful(), 0);
        x.turn(0, false);
        CHECKS.due("both", x.kept(), 3);
        x.turn(0, true);
        CHECKS.due("none again", x.kept(), 0);
    }

    private static void numbered() {
        CHECKS.about("LAWFUL ones are numbered from 0 on in their order.");
        LawfulLots x = Texts.lotsOf("field a from 0 to 9;law a!=0;law a!=9;law a!=4;");
        int[] values = {1, 2, 3, 5, 6, 7, 8};
        for (int k = 0; k < values.length; k++) {
            CHECKS.due("LAWFUL INPUT " + k, x.value(k, 0), values[k]);
        }
    }

    private static void shareHolds(String share, int want) {
        LawfulLots x = Texts.lotsOf(share);
        CHECKS.due("share(0) of [" + share + "]", x.share(0), want);
        CHECKS.due("sum() of [" + share + "]", x.sum(), want);
    }

    private static void shareHeld() {
        CHECKS.about("held to 0 .. 1000;");
        shareHolds("share 0-9999;", 0);
        shareHolds("share 0-1;", 0);
        shareHolds("share 0;", 0);
        shareHolds("share 1;", 1);
        shareHolds("share 999;", 999);
        shareHolds("share 1000;", 1000);
        shareHolds("share 1001;", 1000);
        shareHolds("share 9999*9999;", 1000);
    }

    private static void firstShare() {
        CHECKS.about("SHARE of one: the E of the first share that holds (or has no COND),");
        shareHolds("share 5;share 6;", 5);
        shareHolds("share 5 if 1==2;share 6;", 6);
        shareHolds("share 5 if 1==1;share 6;", 5);
        shareHolds("share 0-5 if 1==1;share 6;", 0);
        shareHolds("share 5 if 1==2;".repeat(7) + "share 8 if 1==1;", 8);
        shareHolds("share 5 if 1==2;".repeat(7) + "share 8;", 8);
        LawfulLots x = Texts.lotsOf("field a from 0 to 2;share a*10 if a==1;share a+5 if 0<a;share 3;");
        CHECKS.due("the third", x.share(0), 3);
        CHECKS.due("the first", x.share(1), 10);
        CHECKS.due("the second", x.share(2), 7);
    }

    private static void sharesAre(String shares, int... want) {
        LawfulLots x = Texts.lotsOf("field a from 0 to 1;field b from 0 to 2;" + shares);
        for (int k = 0; k < want.length; k++) {
            CHECKS.due("share(" + k + ") of [" + shares + "]", x.share(k), want[k]);
        }
    }

    /** Shares of which the first or a later one, by its E or by its COND, looks at the first FIELD, at the last, at none. */
    private static void sharesOverSomeFields() {
        CHECKS.about("the first share that holds (or has no COND),");
        sharesAre("share 7 if a==1;share 9 if b==1;share 5;", 5, 9, 5, 7, 7, 7);
        sharesAre("share 7 if b==1;share 9 if a==1;share 5;", 5, 7, 5, 9, 7, 9);
        sharesAre("share a+1 if a==1;share b*2;", 0, 2, 4, 2, 2, 2);
        sharesAre("share b*2 if a==1;share a+3;", 3, 3, 3, 0, 2, 4);
        sharesAre("share 4 if 1==2;share 6 if a<b;share 8;", 8, 6, 6, 8, 8, 6);
        sharesAre("share 4;share b;", 4, 4, 4, 4, 4, 4);
    }

    private static void withoutShare() {
        CHECKS.about("1 without one.");
        shareHolds("", 1);
        shareHolds("share 5 if 1==2;", 1);
        shareHolds("share 5 if 1==2;".repeat(8), 1);
        LawfulLots x = Texts.lotsOf("field a from 0 to 2;share 5 if a==1;");
        CHECKS.due("sum()", x.sum(), 7);
    }

    private static void drawnByNumber() {
        CHECKS.about("DRAWING by a number x, 0 .. the sum of all SHARES less 1:");
        LawfulLots x = Texts.lotsOf("field a from 0 to 6;share 0 if a==0 or a==3 or a==6;share a;");
        CHECKS.due("sum()", x.sum(), 12);
        int[] drawn = {1, 2, 2, 4, 4, 4, 4, 5, 5, 5, 5, 5};
        for (int number = 0; number < drawn.length; number++) {
            CHECKS.due("pick(" + number + ")", x.pick(number), drawn[number]);
        }
        Spans.due(CHECKS, "pick", x::pick, 0, 11, 1, 5);
    }

    private static void drawnOfMany() {
        CHECKS.about("the first LAWFUL one with which the SHARES of all up to it come to more than x.");
        LawfulLots x = Texts.lotsOf("field a from 0 to 31;field b from 0 to 1023;share 1000;");
        CHECKS.due("the greatest sum", x.sum(), 32768000);
        for (int k : new int[] {0, 1, 62, 63, 64, 65, 127, 128, 4095, 4096, 32703, 32704, 32766, 32767}) {
            CHECKS.due("its first number", x.pick(k * 1000), k);
            CHECKS.due("its last number", x.pick(k * 1000 + 999), k);
        }
        Spans.none(CHECKS, "pick", x::pick, 0, 32767999);
        LawfulLots y = Texts.lotsOf("field a from 0 to 299;share 1 if a==299;share 2 if a==100;share 0;");
        CHECKS.due("far behind those without", y.pick(0), 100);
        CHECKS.due("the same", y.pick(1), 100);
        CHECKS.due("the last of all", y.pick(2), 299);
        CHECKS.due("no more", y.pick(3), -1);
    }

    /** The document's words with whole numbers that never wrap, brought back to 64 bits where a long would wrap. */
    private static int drawn(long seed, int i, long sum) {
        BigInteger all = BigInteger.ONE.shiftLeft(64);
        BigInteger w = BigInteger.valueOf(seed).multiply(BigInteger.valueOf(31)).add(BigInteger.valueOf(i)).add(BigInteger.ONE)
            .multiply(new BigInteger("2862933555777941757")).mod(all);
        BigInteger v = w.xor(w.shiftRight(29));
        return v.shiftRight(1).mod(BigInteger.valueOf(sum)).intValue();
    }

    private static void drawnBySeed() {
        CHECKS.about("x is the rest, by that sum, of v >>> 1, with longs that wrap:");
        long[] seeds = {0, 1, -1, 2, -2, 31, 1L << 32, -(1L << 32), 1L << 58, 1L << 59, -(1L << 59), 1L << 62, Long.MAX_VALUE,
            Long.MAX_VALUE - 1, Long.MIN_VALUE, Long.MIN_VALUE + 1, Long.MAX_VALUE / 31, Long.MAX_VALUE / 31 + 1, Long.MIN_VALUE / 31};
        int[] counts = {0, 1, 2, 30, 31, 32767, GREATEST_INT - 1, GREATEST_INT};
        LawfulLots x = Texts.lotsOf("field a from 0 to 9972;");
        LawfulLots y = Texts.lotsOf("field a from 0 to 31;field b from 0 to 1023;share 1000;");
        for (long seed : seeds) {
            for (int i : counts) {
                CHECKS.due("draw(" + seed + ", " + i + ") of 9973", x.draw(seed, i), drawn(seed, i, 9973));
                CHECKS.due("draw(" + seed + ", " + i + ") of 32768000", y.draw(seed, i), drawn(seed, i, 32768000) / 1000);
            }
        }
    }

    private static void quarrelOf(String text, int want) {
        CHECKS.due("quarrel() of [" + text + "]", Texts.lotsOf(text).quarrel(), want);
    }

    private static void smallestQuarrel() {
        CHECKS.about("of all sets of these laws for which no INPUT is there of which they hold the smallest;");
        quarrelOf("law 1==2;", 1);
        quarrelOf("law 1==1;".repeat(7) + "law 1==2;", 128);
        quarrelOf("field a from 0 to 3;law a!=0;law a!=1;law a!=2;law a!=3;law a<2;law 1<a;", 16 | 32);
        quarrelOf("field a from 0 to 3;law a<2;law 1<a;law a==9;", 4);
        StringBuilder text = new StringBuilder("field a from 0 to 7;");
        for (int n = 0; n < 8; n++) {
            text.append("law a!=").append(n).append(';');
        }
        quarrelOf(text.toString(), 255);
    }

    private static void firstQuarrel() {
        CHECKS.about("of these the first by who is in (the least law that is not in both).");
        quarrelOf("law 1==2;".repeat(8), 1);
        quarrelOf("field a from 0 to 9;law a<9;law a<2;law 2<a;law a<1;law 3<a;", 2 | 4);
        quarrelOf("field a from 0 to 2;law a!=0;law a==1;law a==2;law a==0;", 1 | 8);
        quarrelOf("field a from 0 to 3;law a==0 or a==1;law a==2;law a==3;law a==2 or a==3;", 1 | 2);
        quarrelOf("field a from 0 to 3;law a<3;law a==1;law a==2;law a==3;", 1 | 8);
        quarrelOf("field a from 0 to 3;law a!=0 and a!=1;law a<3;law a!=2;law a==0 or a==3;law a==2 or a==0;", 1 | 2 | 4);
    }

    private static void noQuarrel() {
        CHECKS.about("QUARREL (laws as bits); NONE: some INPUT is LAWFUL by laws that are ON.");
        quarrelOf("", -1);
        quarrelOf("field a from 0 to 3;law a==1;law a<2;", -1);
        quarrelOf("field a from 0 to 3;law a<3;soft 1 a==3;", -1);
        LawfulLots x = Texts.lotsOf("field a from 0 to 3;law a==1;law a==2;law a==3;");
        CHECKS.due("all ON", x.quarrel(), 3);
        x.turn(1, false);
        CHECKS.due("law 1 is OFF", x.quarrel(), 5);
        x.turn(0, false);
        CHECKS.due("law 2 alone", x.quarrel(), -1);
        x.turn(2, false);
        CHECKS.due("none ON", x.quarrel(), -1);
        x.turn(1, true);
        x.turn(2, true);
        CHECKS.due("laws 1 and 2", x.quarrel(), 6);
        LawfulLots y = Texts.lotsOf("law 1==2;");
        y.turn(0, false);
        CHECKS.due("none ON of one", y.quarrel(), -1);
    }

    private static void turned() {
        CHECKS.about("A law is ON or not: true; false: there is none such, or it is so.");
        LawfulLots x = Texts.lotsOf("field a from 0 to 8;" + "law 0<a;".repeat(7) + "law a<8;");
        for (int law : new int[] {0, 7}) {
            CHECKS.due("it is ON", x.turn(law, true), false);
            CHECKS.due("ON to OFF", x.turn(law, false), true);
            CHECKS.due("it is OFF", x.turn(law, false), false);
            CHECKS.due("OFF to ON", x.turn(law, true), true);
            CHECKS.due("it is ON again", x.turn(law, true), false);
        }
        x.turn(7, false);
        x.draw(1, 1);
        String before = Snapshot.of(x);
        for (int law : new int[] {-1, 8, 9, 31, 32, 39, 40, 64, 256, -8, -32, LEAST_INT, GREATEST_INT}) {
            CHECKS.due("no law " + law, x.turn(law, false), false);
            CHECKS.due("no law " + law, x.turn(law, true), false);
        }
        CHECKS.due("all as before", Snapshot.of(x), before);
        CHECKS.due("a new object has no law", new LawfulLots().turn(0, true), false);
        CHECKS.due("a new object has no law", new LawfulLots().turn(0, false), false);
        LawfulLots y = Texts.lotsOf("law 1==1;");
        CHECKS.due("no law 1", y.turn(1, false), false);
        CHECKS.due("law 0", y.turn(0, false), true);
    }

    private static void howManyLawful() {
        CHECKS.about("How many INPUTS are LAWFUL.");
        CHECKS.due("none", Texts.lotsOf("field a from 0 to 9999;law a<0;").lawful(), 0);
        CHECKS.due("the first alone", Texts.lotsOf("field a from 0 to 9999;law a<1;").lawful(), 1);
        CHECKS.due("the last alone", Texts.lotsOf("field a from 0 to 9999;law 9998<a;").lawful(), 1);
        CHECKS.due("all but one", Texts.lotsOf("field a from 0 to 9999;law a!=5000;").lawful(), 9999);
        LawfulLots x = Texts.lotsOf("field a from 0 to 7;field b from 0 to 4095;law a!=7 or b!=4095;");
        CHECKS.due("all but the last of 32,768", x.lawful(), 32767);
        x.turn(0, false);
        CHECKS.due("all 32,768", x.lawful(), 32768);
    }

    private static void valuesNone() {
        CHECKS.about("The value of a FIELD in LAWFUL INPUT k; NONE: no such ones.");
        LawfulLots x = Texts.lotsOf("field a from 2 to 4;field b from 7 to 9;law a!=3;");
        Spans.due(CHECKS, "value of k", k -> x.value(k, 1), 0, 5, 7, 9);
        Spans.due(CHECKS, "value of a FIELD", field -> x.value(5, field), 0, 1, 4, 9);
        CHECKS.due("neither", x.value(6, 2), -1);
        CHECKS.due("neither", x.value(-1, -1), -1);
        LawfulLots y = Texts.lotsOf("field a from 0 to 1;law a==2;");
        CHECKS.due("none LAWFUL", y.value(0, 0), -1);
        LawfulLots z = Texts.lotsOf("field a from 0 to 31;field b from 0 to 1023;");
        Spans.due(CHECKS, "value of k", k -> z.value(k, 1), 0, 32767, 0, 1023);
    }

    private static void sharesNone() {
        CHECKS.about("SHARE of LAWFUL INPUT k; NONE: there is none such.");
        LawfulLots x = Texts.lotsOf("field a from 2 to 4;share a;");
        Spans.due(CHECKS, "share", x::share, 0, 2, 2, 4);
        LawfulLots y = Texts.lotsOf("field a from 2 to 4;law a==5;share a;");
        CHECKS.due("none LAWFUL", y.share(0), -1);
        y.turn(0, false);
        CHECKS.due("all LAWFUL", y.share(2), 4);
        y.turn(0, true);
        CHECKS.due("none LAWFUL again", y.share(0), -1);
    }

    private static void sums() {
        CHECKS.about("The sum of all SHARES.");
        LawfulLots x = Texts.lotsOf("field a from 0 to 3;law a<2;law 1<a;share a*100;");
        CHECKS.due("none LAWFUL", x.sum(), 0);
        CHECKS.due("no number", x.pick(0), -1);
        x.turn(1, false);
        CHECKS.due("0 and 1", x.sum(), 100);
        CHECKS.due("1", x.pick(99), 1);
        CHECKS.due("no more", x.pick(100), -1);
        x.turn(0, false);
        CHECKS.due("all", x.sum(), 600);
        CHECKS.due("3", x.pick(599), 3);
        CHECKS.due("SHARES of 0", Texts.lotsOf("field a from 0 to 9;share 0;").sum(), 0);
    }

    private static void picksNone() {
        CHECKS.about("The LAWFUL INPUT drawn by a number; NONE: no such number.");
        LawfulLots x = Texts.lotsOf("field a from 0 to 4;share 2;");
        Spans.due(CHECKS, "pick", x::pick, 0, 9, 0, 4);
        LawfulLots y = Texts.lotsOf("field a from 0 to 4;share 0;");
        Spans.none(CHECKS, "pick", y::pick, 0, -1);
        LawfulLots z = Texts.lotsOf("law 1==2;");
        Spans.none(CHECKS, "pick", z::pick, 0, -1);
    }

    private static void drawsNone() {
        CHECKS.about("NONE: the sum of SHARES is 0, no such count.");
        LawfulLots x = Texts.lotsOf("field a from 0 to 4;law a<3;law 2<a;share a;");
        CHECKS.due("none LAWFUL", x.draw(1, 1), -1);
        x.turn(0, false);
        CHECKS.due("count -1", x.draw(1, -1), -1);
        CHECKS.due("the least count", x.draw(1, LEAST_INT), -1);
        CHECKS.due("nothing came into the LOG", x.count(7), 0);
        CHECKS.due("count 0", x.draw(1, 0), drawn(1, 0, 7) < 3 ? 0 : 1);
        CHECKS.due("the greatest count", x.draw(1, GREATEST_INT), drawn(1, GREATEST_INT, 7) < 3 ? 0 : 1);
        CHECKS.due("two came", x.count(7), 2);
        LawfulLots y = Texts.lotsOf("field a from 0 to 4;share 0;");
        CHECKS.due("SHARES of 0", y.draw(1, 1), -1);
        CHECKS.due("nothing came into the LOG", y.count(7), 0);
        CHECKS.due("nothing to tell of it", y.logged(0, 0), -1);
        LawfulLots z = Texts.lotsOf("field a from 0 to 4;share 1 if a==3;share 0;");
        CHECKS.due("a sum of 1", z.draw(-5, 9), 3);
    }

    private static void aloneNone() {
        CHECKS.about("How many INPUTS there are of which law k alone does not hold, of those that are ON (soft ones do not matter);");
        LawfulLots x = Texts.lotsOf("field a from 0 to 9;" + "law 1==1;".repeat(6) + "law a<8;law 1<a;soft 9 a==5;soft 1 a==9;");
        CHECKS.due("no INPUT", x.alone(0), 0);
        CHECKS.due("8 and 9", x.alone(6), 2);
        CHECKS.due("0 and 1", x.alone(7), 2);
        LawfulLots y = Texts.lotsOf("field a from 0 to 9;law a<2;law a<5;law 1==2;");
        CHECKS.due("2, 3, 4 are not LAWFUL by law 2 either", y.alone(0), 0);
        CHECKS.due("no INPUT fails law 1 alone", y.alone(1), 0);
        CHECKS.due("0 and 1", y.alone(2), 2);
        y.turn(2, false);
        CHECKS.due("2, 3, 4", y.alone(0), 3);
        CHECKS.due("no INPUT fails law 1 alone", y.alone(1), 0);
        y.turn(0, false);
        CHECKS.due("5 .. 9", y.alone(1), 5);
    }

    private static void aloneRefused() {
        CHECKS.about("NONE: there is none such, or it is not ON.");
        LawfulLots x = Texts.lotsOf("field a from 0 to 9;law a<8;law 2<a;");
        Spans.due(CHECKS, "alone", x::alone, 0, 1, 2, 3);
        x.turn(0, false);
        CHECKS.due("not ON", x.alone(0), -1);
        CHECKS.due("the other one", x.alone(1), 3);
        x.turn(0, true);
        CHECKS.due("ON again", x.alone(0), 2);
        Spans.none(CHECKS, "alone", new LawfulLots()::alone, 0, -1);
        LawfulLots y = Texts.lotsOf("law 1==1;".repeat(8));
        Spans.due(CHECKS, "alone", y::alone, 0, 7, 0, 0);
    }

    public static void main(String[] args) {
        ordered();
        withoutFields();
        lawfulByAllThatAreOn();
        lawsOverSomeFields();
        greatestFirst();
        keptIfSomeInput();
        noneKept();
        numbered();
        shareHeld();
        firstShare();
        sharesOverSomeFields();
        withoutShare();
        drawnByNumber();
        drawnOfMany();
        drawnBySeed();
        smallestQuarrel();
        firstQuarrel();
        noQuarrel();
        turned();
        howManyLawful();
        valuesNone();
        sharesNone();
        sums();
        picksNone();
        drawsNone();
        aloneNone();
        aloneRefused();
        CHECKS.end();
    }
}
