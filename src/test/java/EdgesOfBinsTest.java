/** "III" and promises 13 and 16 to 24: each sentence that names an edge of the LOG and of bins has a test of its own. */
public final class EdgesOfBinsTest {
    private static final Checks CHECKS = new Checks();
    // Law n leaves INPUT n alone, so that a draw with it ON is known beforehand.
    private static final String STEERED = "field a from 0 to 3;law a==0;law a==1;law a==2;law a==3;";

    private static LawfulLots steered(String more) {
        LawfulLots x = Texts.lotsOf(STEERED + more);
        for (int law = 0; law < 4; law++) {
            x.turn(law, false);
        }
        return x;
    }

    private static void drawInput(LawfulLots x, int input) {
        x.turn(input, true);
        CHECKS.due("the only one that is LAWFUL", x.draw(7, 7), 0);
        x.turn(input, false);
    }

    // THE LOG.

    private static void fullLog() {
        CHECKS.about("THE LOG has 200 INPUTS at most: those drawn by a SEED.");
        LawfulLots x = steered("bin a==1;bin a==2;");
        x.turn(1, true);
        for (int n = 1; n <= 199; n++) {
            x.draw(n, n);
            CHECKS.due("in the LOG", x.count(7), n);
        }
        x.turn(1, false);
        CHECKS.due("a number draws nothing into it", x.pick(2), 2);
        CHECKS.due("199 still", x.count(7), 199);
        drawInput(x, 0);
        CHECKS.due("the 200th", x.count(7), 200);
        CHECKS.due("it is the last", x.logged(199, 0), 0);
        drawInput(x, 2);
        CHECKS.due("no 201st", x.count(7), 200);
        CHECKS.due("none of it", x.logged(200, 0), -1);
        CHECKS.due("the last is as it was", x.logged(199, 0), 0);
        CHECKS.due("the first is as it was", x.logged(0, 0), 1);
        CHECKS.due("199 HITS", x.hits(0), 199);
        CHECKS.due("what did not come in has no HITS", x.hits(1), 0);
        CHECKS.due("and is wanted by FILL", x.fill(), 1);
    }

    private static void drawnIfThereIsRoom() {
        CHECKS.about("which comes into the LOG if there is room: it;");
        LawfulLots x = Texts.lotsOf("field a from 0 to 9;");
        for (int n = 0; n < 200; n++) {
            int drawn = x.draw(n, 3);
            CHECKS.due("what was drawn is in the LOG", x.logged(n, 0), drawn);
        }
        LawfulLots y = Texts.lotsOf("field a from 0 to 9;");
        CHECKS.due("the full LOG does not change what is drawn", x.draw(77, 5), y.draw(77, 5));
        CHECKS.due("it came into the other LOG", y.count(7), 1);
        CHECKS.due("not into the full one", x.count(7), 200);
    }

    private static void hitsOfTheLog() {
        CHECKS.about("A bin is MET by an INPUT of which it holds; HITS: how many of the LOG meet it.");
        LawfulLots x = steered("bin a<2;bin a==1;bin a==3;");
        CHECKS.due("an empty LOG", x.hits(0), 0);
        drawInput(x, 1);
        drawInput(x, 1);
        drawInput(x, 0);
        drawInput(x, 2);
        CHECKS.due("0 and 1, twice", x.hits(0), 3);
        CHECKS.due("the same INPUT twice", x.hits(1), 2);
        CHECKS.due("none", x.hits(2), 0);
        x.turn(2, true);
        CHECKS.due("FALLEN ones count too", x.hits(0), 3);
        x.turn(0, true);
        CHECKS.due("though none is LAWFUL", x.hits(0), 3);
    }

    private static void hitsNone() {
        CHECKS.about("HITS of a bin; NONE: there is none such.");
        LawfulLots x = Texts.lotsOf("bin 1==2;".repeat(7) + "bin 1==1;");
        x.draw(1, 1);
        Spans.due(CHECKS, "hits", x::hits, 0, 7, 0, 1);
        LawfulLots y = Texts.lotsOf("bin 1==1;");
        Spans.due(CHECKS, "hits", y::hits, 0, 0, 0, 0);
        Spans.none(CHECKS, "hits", new LawfulLots()::hits, 0, -1);
    }

    private static void loggedNone() {
        CHECKS.about("INPUT i of the LOG: the value of a FIELD; NONE: no such ones.");
        LawfulLots x = Texts.lotsOf("field a from 5 to 6;field b from 8 to 8;law a==5;law a==6;");
        Spans.none(CHECKS, "logged of an empty LOG", i -> x.logged(i, 0), 0, -1);
        x.turn(1, false);
        x.draw(1, 1);
        x.turn(0, false);
        x.turn(1, true);
        x.draw(1, 1);
        Spans.due(CHECKS, "logged", i -> x.logged(i, 0), 0, 1, 5, 6);
        Spans.due(CHECKS, "logged of a FIELD", field -> x.logged(1, field), 0, 1, 6, 8);
        x.turn(0, true);
        CHECKS.due("FALLEN ones stay", x.logged(0, 0), 5);
        CHECKS.due("neither", x.logged(2, 2), -1);
        CHECKS.due("neither", x.logged(-1, -1), -1);
    }

    private static void fallenNow() {
        CHECKS.about("FALLEN ones of the LOG: those that are not LAWFUL now.");
        LawfulLots x = steered("soft 1 a!=3;");
        drawInput(x, 0);
        drawInput(x, 3);
        drawInput(x, 1);
        CHECKS.due("3, by a soft one that is KEPT", x.fallen(0), 1);
        CHECKS.due("no more", x.fallen(1), -1);
        x.turn(3, true);
        CHECKS.due("0 is FALLEN, 3 is not", x.fallen(0), 0);
        CHECKS.due("1 too", x.fallen(1), 2);
        CHECKS.due("no more", x.fallen(2), -1);
        x.turn(1, true);
        CHECKS.due("none is LAWFUL: all of them", x.fallen(2), 2);
        x.turn(1, false);
        x.turn(3, false);
        CHECKS.due("as at first", x.fallen(0), 1);
    }

    private static void fallenNone() {
        CHECKS.about("The i-th of the LOG (its number there) that is FALLEN; NONE: not so many.");
        CHECKS.due("an empty LOG", new LawfulLots().fallen(0), -1);
        LawfulLots x = steered("");
        for (int n = 0; n < 200; n++) {
            x.draw(n, n);
        }
        CHECKS.due("none is FALLEN", x.fallen(0), -1);
        x.turn(0, true);
        x.turn(1, true);
        Spans.due(CHECKS, "fallen of a full LOG", x::fallen, 0, 199, 0, 199);
        CHECKS.due("in their order", x.fallen(77), 77);
    }

    // Bins.

    private static void meetsNone() {
        CHECKS.about("How many LAWFUL INPUTS meet a bin; NONE: there is none such.");
        LawfulLots x = Texts.lotsOf("field a from 0 to 9;law a!=5;bin 1==1;" + "bin 1==2;".repeat(6) + "bin 3<a;");
        Spans.due(CHECKS, "meets", x::meets, 0, 7, 9, 5);
        CHECKS.due("a DEAD one", x.meets(3), 0);
        x.turn(0, false);
        CHECKS.due("all LAWFUL", x.meets(0), 10);
        LawfulLots y = Texts.lotsOf("law 1==2;bin 1==1;");
        Spans.due(CHECKS, "meets, none LAWFUL", y::meets, 0, 0, 0, 0);
        Spans.none(CHECKS, "meets", new LawfulLots()::meets, 0, -1);
        LawfulLots z = Texts.lotsOf("field a from 0 to 31;field b from 0 to 1023;bin 1==1;bin a==31 and b==1023;");
        CHECKS.due("all of 32,768", z.meets(0), 32768);
        CHECKS.due("the last of them", z.meets(1), 1);
        CHECKS.due("it", z.least(1), 32767);
    }

    private static void crossNone() {
        CHECKS.about("How many LAWFUL INPUTS meet two bins; NONE: no such ones.");
        LawfulLots x = Texts.lotsOf("field a from 0 to 9;law a!=5;bin a<7;" + "bin 1==2;".repeat(6) + "bin 3<a;");
        Spans.due(CHECKS, "cross", other -> x.cross(0, other), 0, 7, 6, 2);
        Spans.due(CHECKS, "cross", one -> x.cross(one, 7), 0, 7, 2, 5);
        CHECKS.due("with a DEAD one", x.cross(0, 3), 0);
        CHECKS.due("with a DEAD one ahead", x.cross(3, 0), 0);
        CHECKS.due("neither", x.cross(8, 8), -1);
        CHECKS.due("neither", x.cross(-1, 8), -1);
        LawfulLots y = Texts.lotsOf("law 1==2;bin 1==1;bin 1==1;");
        CHECKS.due("none LAWFUL", y.cross(0, 1), 0);
        CHECKS.due("no bins", new LawfulLots().cross(0, 0), -1);
    }

    private static void deadBins() {
        CHECKS.about("A bin is DEAD if no LAWFUL one meets it.");
        LawfulLots x = Texts.lotsOf("field a from 0 to 3;law a<3;soft 1 0<a;bin a==3;bin a==0;bin a==9;bin a==2;");
        CHECKS.due("by a law", x.meets(0), 0);
        CHECKS.due("by a soft one", x.meets(1), 0);
        CHECKS.due("by its span", x.meets(2), 0);
        CHECKS.due("none of them in FILL", x.fill(), 1);
        CHECKS.due("but the other one", x.value(x.fills(0), 0), 2);
        CHECKS.due("no least of them", x.least(0), -1);
        x.turn(0, false);
        CHECKS.due("no more DEAD", x.fill(), 2);
        CHECKS.due("2", x.value(x.fills(0), 0), 2);
        CHECKS.due("3", x.value(x.fills(1), 0), 3);
    }

    private static void fewest() {
        CHECKS.about("FILL: the fewest LAWFUL INPUTS that together meet all bins that are not DEAD and have no HITS.");
        CHECKS.due("no bins", new LawfulLots().fill(), 0);
        CHECKS.due("one INPUT meets all", Texts.lotsOf("field a from 0 to 9;" + "bin a==9;".repeat(8)).fill(), 1);
        // INPUT 1 meets the most, but 0 and 2 meet all.
        LawfulLots x = Texts.lotsOf("field a from 0 to 2;bin a==0 or a==1;bin a==0 or a==1;bin a==0;bin a==1 or a==2;bin a==1 or a==2;"
            + "bin a==2;");
        CHECKS.due("the most at once", x.best(), 1);
        CHECKS.due("is not in the fewest", x.fill(), 2);
        CHECKS.due("0", x.fills(0), 0);
        CHECKS.due("2", x.fills(1), 2);
        StringBuilder eight = new StringBuilder("field a from 0 to 8;law a!=8;");
        for (int n = 0; n < 8; n++) {
            eight.append("bin a==").append(7 - n).append(';');
        }
        LawfulLots y = Texts.lotsOf(eight.toString());
        CHECKS.due("eight", y.fill(), 8);
        for (int i = 0; i < 8; i++) {
            CHECKS.due("in rising order", y.fills(i), i);
        }
    }

    private static void noBinLeft() {
        CHECKS.about("and have no HITS.");
        LawfulLots x = steered("bin a==1;bin a==2 or a==3;bin a==9;");
        CHECKS.due("both", x.fill(), 2);
        drawInput(x, 1);
        CHECKS.due("one is left", x.fill(), 1);
        CHECKS.due("2", x.fills(0), 2);
        drawInput(x, 3);
        CHECKS.due("none is left", x.fill(), 0);
        CHECKS.due("none of none", x.fills(0), -1);
        CHECKS.due("the first is as good as any", x.best(), 0);
        x.turn(2, true);
        CHECKS.due("HITS of FALLEN ones are HITS", x.fill(), 0);
        LawfulLots z = Texts.lotsOf("field a from 0 to 1;bin 1==1;bin a==2;");
        CHECKS.due("any INPUT meets it", z.fill(), 1);
        z.draw(1, 1);
        CHECKS.due("and did", z.fill(), 0);
        CHECKS.due("none of none", z.fills(0), -1);
        LawfulLots y = Texts.lotsOf("law 1==2;bin 1==1;");
        CHECKS.due("none LAWFUL: all are DEAD", y.fill(), 0);
        CHECKS.due("none of none", y.fills(0), -1);
    }

    private static void firstFill() {
        CHECKS.about("The i-th INPUT (LAWFUL number) of a FILL: the first (least numbers, one by one, in rising order) of all with so few;");
        // {0, 3} and {1, 2} are the only ones with two.
        String crossed = "field a from 0 to 3;bin a==0 or a==1;bin a==0 or a==2;bin a==3 or a==1;bin a==3 or a==2;";
        LawfulLots x = Texts.lotsOf(crossed + "law a!=0;");
        CHECKS.due("1 and 2, by their LAWFUL numbers", x.fills(0), 0);
        CHECKS.due("1 and 2, by their LAWFUL numbers", x.fills(1), 1);
        x.turn(0, false);
        CHECKS.due("0 and 3", x.fills(0), 0);
        CHECKS.due("0 and 3", x.fills(1), 3);
        // Three are needed: 4 alone meets bin 2, so 0 .. 3 share the others.
        LawfulLots y = Texts.lotsOf("field a from 0 to 4;bin a==1 or a==3;bin a==2 or a==3;bin a==4;bin a==0 or a==2;");
        CHECKS.due("1, 2, 4", y.fill(), 3);
        CHECKS.due("0 comes with 3", y.fills(0), 0);
        CHECKS.due("0 comes with 3", y.fills(1), 3);
        CHECKS.due("4", y.fills(2), 4);
        LawfulLots z = Texts.lotsOf("field a from 0 to 9;bin 4<a;bin a==9 or a==3 or a==6;");
        CHECKS.due("one is enough", z.fill(), 1);
        CHECKS.due("the first with both", z.fills(0), 6);
    }

    private static void fillsNone() {
        CHECKS.about("NONE: not so many.");
        LawfulLots x = Texts.lotsOf("field a from 0 to 3;bin a==1;bin a==3;");
        Spans.due(CHECKS, "fills", x::fills, 0, 1, 1, 3);
        StringBuilder eight = new StringBuilder("field a from 0 to 7;");
        for (int n = 0; n < 8; n++) {
            eight.append("bin a==").append(n).append(';');
        }
        LawfulLots y = Texts.lotsOf(eight.toString());
        Spans.due(CHECKS, "fills", y::fills, 0, 7, 0, 7);
        Spans.none(CHECKS, "fills", new LawfulLots()::fills, 0, -1);
    }

    private static void best() {
        CHECKS.about("The LAWFUL INPUT that meets the most bins without HITS, of alike ones the first; NONE: none is LAWFUL.");
        CHECKS.due("no bins", Texts.lotsOf("field a from 0 to 3;law 0<a;").best(), 0);
        CHECKS.due("bins that none meets", Texts.lotsOf("field a from 0 to 3;bin a==7;").best(), 0);
        CHECKS.due("the last one", Texts.lotsOf("field a from 0 to 3;bin a==3;").best(), 3);
        CHECKS.due("the first of alike ones", Texts.lotsOf("field a from 0 to 3;bin a==3;bin a==2;bin a==1;").best(), 1);
        CHECKS.due("the most", Texts.lotsOf("field a from 0 to 3;bin a==1;bin 1<a;bin a==3;").best(), 3);
        CHECKS.due("its LAWFUL number", Texts.lotsOf("field a from 0 to 3;law a!=0;bin a==3;").best(), 2);
        CHECKS.due("none LAWFUL", Texts.lotsOf("law 1==2;bin 1==1;").best(), -1);
        CHECKS.due("none LAWFUL, no bins", Texts.lotsOf("law 1==2;").best(), -1);
        CHECKS.due("all eight", Texts.lotsOf("field a from 0 to 3;" + "bin a==2;".repeat(8)).best(), 2);
        LawfulLots x = steered("bin a==2;bin a==2 or a==1;bin a==3;");
        CHECKS.due("2 meets two", x.best(), 2);
        drawInput(x, 1);
        CHECKS.due("bins with HITS do not count: 2 and 3 are alike", x.best(), 2);
        drawInput(x, 2);
        CHECKS.due("3 is left", x.best(), 3);
    }

    private static void least() {
        CHECKS.about("The first LAWFUL INPUT with the least sum of values less from, of those that meet a bin;");
        LawfulLots x = Texts.lotsOf("field a from 7 to 9;field b from 100 to 102;field c from 3 to 3;bin 1==1;bin a==9 or b==102;"
            + "bin a+b+c==112;bin a!=7 or b!=100;");
        CHECKS.due("the sum may be 0", x.least(0), 0);
        CHECKS.due("(7, 102) and (9, 100) are alike", x.least(1), 2);
        CHECKS.due("(7, 102), (8, 101), (9, 100) are alike", x.least(2), 2);
        CHECKS.due("(7, 101) and (8, 100) are alike", x.least(3), 1);
        // The first by number is (0, 9, 0), the least by sum is (3, 0, 0).
        LawfulLots y = Texts.lotsOf("field a from 0 to 9;field b from 0 to 9;bin b==9 or a==3;");
        CHECKS.due("a later one with a lesser sum", y.least(0), 30);
        LawfulLots z = Texts.lotsOf("field a from 500 to 501;field b from 0 to 3;bin a+b==503;law b!=0;");
        CHECKS.due("by its LAWFUL number", z.least(0), 2);
        LawfulLots w = Texts.lotsOf("field a from 0 to 9999;bin a==9999;");
        CHECKS.due("a great sum", w.least(0), 9999);
    }

    private static void leastNone() {
        CHECKS.about("NONE: no such one.");
        LawfulLots x = Texts.lotsOf("field a from 0 to 3;law a<3;bin a==1;" + "bin a==3;".repeat(6) + "bin a==2;");
        Spans.due(CHECKS, "least", x::least, 0, 7, 1, 2);
        CHECKS.due("a DEAD one", x.least(1), -1);
        x.turn(0, false);
        CHECKS.due("no more", x.least(1), 3);
        x.turn(0, true);
        CHECKS.due("DEAD again", x.least(6), -1);
        Spans.none(CHECKS, "least", new LawfulLots()::least, 0, -1);
        CHECKS.due("none LAWFUL", Texts.lotsOf("law 1==2;bin 1==1;").least(0), -1);
    }

    public static void main(String[] args) {
        fullLog();
        drawnIfThereIsRoom();
        hitsOfTheLog();
        hitsNone();
        loggedNone();
        fallenNow();
        fallenNone();
        meetsNone();
        crossNone();
        deadBins();
        fewest();
        noBinLeft();
        firstFill();
        fillsNone();
        best();
        least();
        leastNone();
        CHECKS.end();
    }
}
