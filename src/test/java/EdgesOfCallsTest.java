/** Promises 1 to 3 and 27: each sentence that names an edge of a new object, of the tape and of the counts has a test of its own. */
public final class EdgesOfCallsTest {
    private static final Checks CHECKS = new Checks();
    private static final int BLANKS = 0x20202020;

    private static void newObject() {
        CHECKS.about("No FIELDS, nothing else.");
        LawfulLots x = new LawfulLots();
        int[] counts = {0, 0, 0, 0, 0, 0, 1, 0, 0};
        for (int what = 0; what < counts.length; what++) {
            CHECKS.due("count(" + what + ")", x.count(what), counts[what]);
        }
        CHECKS.due("as the empty text", Snapshot.of(x), Snapshot.of(Texts.lotsOf("")));
        CHECKS.due("place()", x.place(), -1);
        CHECKS.due("back(1)", x.back(1), -1);
        CHECKS.due("turn(0, true)", x.turn(0, true), false);
        CHECKS.due("lawful()", x.lawful(), 1);
        CHECKS.due("kept()", x.kept(), 0);
        CHECKS.due("value(0, 0)", x.value(0, 0), -1);
        CHECKS.due("share(0)", x.share(0), 1);
        CHECKS.due("sum()", x.sum(), 1);
        CHECKS.due("pick(0)", x.pick(0), 0);
        CHECKS.due("quarrel()", x.quarrel(), -1);
        CHECKS.due("alone(0)", x.alone(0), -1);
        CHECKS.due("fill()", x.fill(), 0);
        CHECKS.due("best()", x.best(), 0);
        CHECKS.due("fallen(0)", x.fallen(0), -1);
        CHECKS.due("rows(10)", x.rows(10), 1);
        CHECKS.due("row(10, 0, 9)", x.row(10, 0, 9), 0);
        CHECKS.due("row(10, 1, 9)", x.row(10, 1, 9), -1);
        CHECKS.due("draw(0, 0)", x.draw(0, 0), 0);
        CHECKS.due("it is in the LOG", x.count(7), 1);
        CHECKS.due("NONE", LawfulLots.NONE, -1);
    }

    /** Each object has a state of its own. */
    private static void twoObjects() {
        CHECKS.about("No FIELDS, nothing else.");
        LawfulLots x = Texts.lotsOf("field a from 0 to 3;law a<2;bin a==0;");
        x.feed(1, 2, 3, 4, 5);
        x.draw(1, 1);
        LawfulLots y = new LawfulLots();
        CHECKS.due("no FIELDS", y.count(0), 0);
        CHECKS.due("no bytes", y.count(8), 0);
        CHECKS.due("nothing in the LOG", y.count(7), 0);
        Texts.read(y, "law 1==2;");
        CHECKS.due("the other one is as it was", x.lawful(), 2);
        CHECKS.due("its tape too", x.count(8), 20);
    }

    private static void lastCalls() {
        CHECKS.about("An object is used for at most 512 calls after it has been made;");
        LawfulLots x = Texts.lotsOf("field a from 0 to 9;law a<5;");
        // Texts.lotsOf made four calls: two feeds, a back, a read.
        for (int n = 5; n < 512; n += 3) {
            boolean on = n % 2 == 0;
            CHECKS.due("call " + n, x.turn(0, on), true);
            CHECKS.due("call " + (n + 1), x.lawful(), on ? 5 : 10);
            CHECKS.due("call " + (n + 2), x.value(5, 0), on ? -1 : 5);
        }
        CHECKS.due("call 512", x.lawful(), 10);
    }

    private static void highestFirst() {
        CHECKS.about("Twenty bytes, the highest of a first, come behind the tape: how many it has.");
        for (int at = 0; at < 40; at++) {
            LawfulLots x = new LawfulLots();
            int[] words = new int[10];
            java.util.Arrays.fill(words, BLANKS);
            words[at / 4] ^= (0x20 ^ 0xff) << 24 - at % 4 * 8;
            CHECKS.due("the first twenty", x.feed(words[0], words[1], words[2], words[3], words[4]), 20);
            CHECKS.due("the next twenty", x.feed(words[5], words[6], words[7], words[8], words[9]), 40);
            CHECKS.due("a byte that is no TOKEN", x.read(), 1);
            CHECKS.due("its place", x.place(), at);
        }
    }

    private static LawfulLots fed(int feeds) {
        LawfulLots x = new LawfulLots();
        for (int n = 1; n <= feeds; n++) {
            CHECKS.due("feed", x.feed(BLANKS, BLANKS, BLANKS, BLANKS, BLANKS), n * 20);
        }
        return x;
    }

    private static void fullTape() {
        CHECKS.about("NONE, and nothing comes, if it would have more than 2,000.");
        for (int gone : new int[] {0, 1, 10, 19}) {
            LawfulLots x = fed(100);
            x.back(gone);
            CHECKS.due("too many behind " + (2000 - gone), x.feed(-1, -1, -1, -1, -1), -1);
            CHECKS.due("nothing came", x.count(8), 2000 - gone);
            CHECKS.due("blanks alone", x.read(), 0);
            CHECKS.due("empty then", x.feed(-1, -1, -1, -1, -1), 20);
        }
        LawfulLots x = fed(100);
        x.back(20);
        CHECKS.due("the last twenty", x.feed(BLANKS, BLANKS, BLANKS, BLANKS, -1), 2000);
        CHECKS.due("not one more", x.feed(BLANKS, BLANKS, BLANKS, BLANKS, BLANKS), -1);
        CHECKS.due("they came", x.read(), 1);
        CHECKS.due("to the end", x.place(), 1996);
        LawfulLots y = fed(99);
        y.back(1);
        CHECKS.due("1,999 bytes", y.feed(BLANKS, BLANKS, BLANKS, BLANKS, BLANKS), 1999);
        CHECKS.due("not twenty more", y.feed(BLANKS, BLANKS, BLANKS, BLANKS, BLANKS), -1);
    }

    private static void goBack() {
        CHECKS.about("The last n bytes of the tape go: how many it has.");
        LawfulLots x = new LawfulLots();
        Texts.feed(x, "law 1==1;law 1==1;law ?".getBytes(java.nio.charset.StandardCharsets.ISO_8859_1));
        CHECKS.due("none go", x.back(0), 23);
        CHECKS.due("one goes", x.back(1), 22);
        CHECKS.due("thirteen go", x.back(13), 9);
        CHECKS.due("the first are left", x.read(), 0);
        CHECKS.due("one law", x.count(1), 1);
        LawfulLots y = fed(100);
        CHECKS.due("all go", y.back(2000), 0);
        CHECKS.due("none go of none", y.back(0), 0);
        CHECKS.due("the tape is new", y.feed(BLANKS, BLANKS, BLANKS, BLANKS, -1), 20);
        CHECKS.due("what came is read", y.read(), 1);
        CHECKS.due("at its place", y.place(), 16);
    }

    private static void goBackNone() {
        CHECKS.about("NONE, and nothing goes, if it has not so many, or n is below 0.");
        LawfulLots x = fed(2);
        for (int n : new int[] {41, 42, 2000, Integer.MAX_VALUE, -1, -40, -41, Integer.MIN_VALUE, Integer.MIN_VALUE + 1}) {
            CHECKS.due("back(" + n + ")", x.back(n), -1);
            CHECKS.due("nothing went", x.count(8), 40);
        }
        CHECKS.due("all of them", x.back(40), 0);
        CHECKS.due("one of none", x.back(1), -1);
        CHECKS.due("below 0 of none", x.back(-1), -1);
        LawfulLots y = fed(100);
        CHECKS.due("one too many of a full tape", y.back(2001), -1);
        CHECKS.due("nothing went", y.count(8), 2000);
    }

    private static void counts() {
        CHECKS.about("0 FIELDS, 1 laws, 2 soft ones, 3 bins, 4 nexts, 5 shares, 6 INPUTS, 7 in the LOG, 8 bytes on the tape.");
        StringBuilder text = new StringBuilder();
        for (int n = 0; n < 6; n++) {
            text.append("field f").append(n).append(" from 0 to ").append(n % 3).append(';');
        }
        text.append("law 1==1;".repeat(8)).append("soft 1 1==1;".repeat(7)).append("bin 1==1;".repeat(5));
        text.append("next 1==1;".repeat(4)).append("share 1;".repeat(3));
        LawfulLots x = Texts.lotsOf(text.toString());
        x.draw(1, 1);
        x.draw(1, 2);
        x.feed(BLANKS, BLANKS, BLANKS, BLANKS, BLANKS);
        x.back(9);
        int[] counts = {6, 8, 7, 5, 4, 3, 36, 2, 11};
        for (int what = 0; what < counts.length; what++) {
            CHECKS.due("count(" + what + ")", x.count(what), counts[what]);
        }
        x.turn(0, false);
        CHECKS.due("laws that are OFF too", x.count(1), 8);
        LawfulLots y = Texts.lotsOf("field a from 0 to 9;law a<3;");
        CHECKS.due("INPUTS that are not LAWFUL too", y.count(6), 10);
        CHECKS.due("as many as can be", Texts.lotsOf("field a from 0 to 31;field b from 0 to 1023;").count(6), 32768);
    }

    private static void countsNone() {
        CHECKS.about("NONE for others.");
        LawfulLots x = Texts.lotsOf("field a from 0 to 9;");
        x.feed(BLANKS, BLANKS, BLANKS, BLANKS, BLANKS);
        Spans.due(CHECKS, "count", x::count, 0, 8, 1, 20);
        Spans.none(CHECKS, "count of a new object", new LawfulLots()::count, 0, 8);
    }

    public static void main(String[] args) {
        newObject();
        twoObjects();
        lastCalls();
        highestFirst();
        fullTape();
        goBack();
        goBackNone();
        counts();
        countsNone();
        CHECKS.end();
    }
}
