import java.util.ArrayList;
import java.util.List;
import java.util.Set;

/** "Terms", the FAULTS, and promises 4 and 5: each sentence has a test of its own, on either side of its edge. */
public final class EdgesOfFaultsTest {
    private static final Checks CHECKS = new Checks();
    private static final Reads READS = new Reads(CHECKS);
    // 400 TOKENS each: with the last ';', and without it.
    private static final String FULL = "soft 1 1" + "+1".repeat(197) + "==1;";
    private static final String OPEN = "law 1" + "+1".repeat(198) + "==1";
    private static final Set<String> TELLS = Set.of("field", "law", "soft", "bin", "next", "share");
    private static final Set<String> UNITS = Set.of("1", "a", "old", "(");
    private static final Set<String> LITERALS = Set.of("not", "1", "a", "old", "(");
    private static final Set<String> BEHIND_LEFT = Set.of("+", "-", "*", "==", "!=", "<", "<=");
    private static final Set<String> IN_BRACKETS = Set.of("+", "-", "*", ")");
    private static final Set<String> BEHIND_RIGHT = Set.of("+", "-", "*", "and", "or", ";");
    private static final Set<String> BEHIND_SHARE = Set.of("+", "-", "*", "if", ";");

    private static final List<String> EACH_FAULT = List.of("law", "bin 1==1;".repeat(9),
        "field a from 0 to 1;field a from 0 to 1;", "law b==1;", "field a from 2 to 1;",
        "field a from 0 to 9999;field b from 0 to 9;");

    private static List<String> tokensOfEachKind() {
        List<String> all = new ArrayList<>(Reads.WORDS);
        all.addAll(Reads.SIGNS);
        all.add("a");
        all.add("1");
        return all;
    }

    /** Of all TOKENS these go on behind each of some texts; any other is SYNTAX at its place, the text's end at its length. */
    private static void goesOn(Set<String> with, String... aheads) {
        for (String ahead : aheads) {
            for (String token : tokensOfEachKind()) {
                String text = ahead + " " + token;
                if (!with.contains(token)) {
                    READS.fault(text, 1, ahead.length() + 1);
                } else if (token.equals(";")) {
                    READS.good(text);
                } else {
                    READS.fault(text, 1, text.length());
                }
            }
            READS.refused(ahead + " ", "?", "");
        }
    }

    private static void syntax() {
        CHECKS.about("1 SYNTAX: a TOKEN, or what is none, with which no text goes on.");
        goesOn(TELLS, "", "law 1==1;", "share 1;", "field a from 0 to 1;");
        goesOn(Set.of("a"), "field", "next old", "law 1==old");
        goesOn(Set.of("from"), "field a");
        goesOn(Set.of("1"), "field a from", "field a from 1 to", "soft");
        goesOn(Set.of("to"), "field a from 1");
        goesOn(Set.of(";"), "field a from 1 to 2");
        goesOn(LITERALS, "law", "soft 1", "bin", "next", "share 1 if", "law not", "law not not", "law 1==1 and", "bin 1==1 or",
            "next 1==1 or not", "share 1 if 1==1 and 1==1 or");
        goesOn(UNITS, "share", "share (", "law (", "law 1+", "law 1-", "law 1*", "law 1==", "law 1!=", "law 1<", "law 1<=",
            "law not 1==", "law ((", "share 1 if 1<=(");
        goesOn(BEHIND_LEFT, "law 1", "law (1)", "law ((1)+1)", "share 1 if 1", "next not 1*1", "bin 1==1 and 1", "next old a");
        goesOn(IN_BRACKETS, "law (1", "law ((1)", "law 1==(1", "share (1", "share 1 if 1<(1*(1)");
        goesOn(BEHIND_RIGHT, "law 1==1", "soft 1 1!=1", "bin not 1<1", "next 1==1 and 1<=(1)", "share 1 if 1==1");
        goesOn(BEHIND_SHARE, "share 1", "share (1)", "share 1*1-1");
    }

    private static void firstByPlace() {
        CHECKS.about("FAULTS, the first by its place (a byte;");
        READS.fault("? ?", 1, 0);
        READS.fault("law ? == ?;", 1, 4);
        READS.fault("law 1 == 1; law ; law ;", 1, 16);
        READS.fault("law 1;" + "bin 1==1;".repeat(9), 1, 5);
        READS.fault("bin 1==1;".repeat(9) + "law 1;", 2, 72);
        READS.fault("law 1==1;".repeat(9) + "bin 1==1;".repeat(9), 2, 72);
        READS.fault("law (((((((1" + "law 1==1;".repeat(9), 2, 10);
    }

    private static void textsEnd() {
        CHECKS.about("the text's end: its length)");
        READS.fault("law", 1, 3);
        READS.fault("law ", 1, 4);
        READS.fault("law 1==1", 1, 8);
        READS.fault("law 1==1 \n\n", 1, 11);
        READS.fault("field a from 0 to 1;law a", 1, 25);
        READS.fault("share (1", 1, 8);
        READS.fault("law b==1;law", 1, 12);
    }

    private static void leastOfOnePlace() {
        CHECKS.about("of one place the least:");
        READS.refused(FULL, ")", "");
        READS.refused(FULL, "?", "");
        READS.refused(FULL + " ", "lawlawlaw", "");
        READS.refused(OPEN, "==", "1;");
        READS.refused("law ((((((1", "(", "");
        READS.fault("field a from 0 to 9999;field a from 0 to 9999;", 3, 29);
    }

    private static void tokens() {
        CHECKS.about("2 ROOM: a 401st TOKEN;");
        READS.good(FULL);
        READS.good(FULL + " \t");
        for (String tell : TELLS) {
            READS.fault(FULL + " " + tell, 2, FULL.length() + 1);
        }
        READS.fault(OPEN, 1, OPEN.length());
        READS.fault(OPEN + " ", 1, OPEN.length() + 1);
        READS.fault(OPEN + ";", 2, OPEN.length());
        READS.fault(OPEN + " and ?", 2, OPEN.length() + 1);
        READS.fault(OPEN + " and law", 2, OPEN.length() + 1);
        READS.fault("law a" + OPEN.substring(5) + ";", 2, OPEN.length());
        String nots = "law " + "not ".repeat(395) + "1==1";
        READS.good(nots + ";");
        READS.fault("law not " + nots.substring(4) + ";", 2, nots.length() + 4);
    }

    /** All of the 400 TOKENS count for what a text says. */
    private static void fullTextsHold() {
        CHECKS.about("a 401st TOKEN;");
        CHECKS.due("a sum of 198 INTS", Texts.lotsOf("bin 0" + "+1".repeat(197) + "==197;").meets(0), 1);
        CHECKS.due("an odd row of 'not'", Texts.lotsOf("bin " + "not ".repeat(395) + "1==1;").meets(0), 0);
        CHECKS.due("an even row of 'not'", Texts.lotsOf("bin " + "not ".repeat(394) + "1==1;").meets(0), 1);
        CHECKS.due("a row of 'or'", Texts.lotsOf("bin 1==2" + " or 1==2".repeat(97) + " or 1==1;").meets(0), 1);
        CHECKS.due("a row of 'and'", Texts.lotsOf("bin 1==1" + " and 1==1".repeat(97) + " and 1==2;").meets(0), 0);
        CHECKS.due("a share of 199 INTS", Texts.lotsOf("share 1" + "+1".repeat(198) + ";").share(0), 199);
    }

    private static String fields(int many) {
        StringBuilder text = new StringBuilder();
        for (int n = 0; n < many; n++) {
            text.append("field f").append(n).append(" from 0 to 1;");
        }
        return text.toString();
    }

    private static void seventhField() {
        CHECKS.about("a 7th field,");
        String six = fields(6);
        READS.good(six);
        READS.fault(fields(7), 2, six.length());
        READS.fault(six + " field", 2, six.length() + 1);
        READS.fault(six + "field f1 from 9 to 0;", 2, six.length());
        READS.fault(six + "law f5==1;field ?", 2, six.length() + 10);
        LawfulLots lots = Texts.lotsOf(six);
        CHECKS.due("six FIELDS", lots.count(0), 6);
        CHECKS.due("their INPUTS", lots.count(6), 64);
        CHECKS.due("the last FIELD of the last INPUT", lots.value(63, 5), 1);
    }

    private static void ninthOfASort() {
        CHECKS.about("a 9th of any other sort (at its first TOKEN);");
        List<String> tells = List.of("law 1==1;", "soft 1 1==1;", "bin 1==1;", "next 1==1;", "share 1;", "share 1 if 1==1;");
        StringBuilder eightOfEach = new StringBuilder(fields(6));
        for (String tell : tells.subList(0, 5)) {
            eightOfEach.append(tell.repeat(8));
        }
        READS.good(eightOfEach.toString());
        for (String tell : tells) {
            String first = tell.substring(0, tell.indexOf(' '));
            READS.good(tell.repeat(8));
            READS.fault(tell.repeat(9), 2, 8 * tell.length());
            READS.fault(tell.repeat(8) + " " + first, 2, 8 * tell.length() + 1);
            READS.fault(tell.repeat(8) + first + " ?", 2, 8 * tell.length());
            READS.fault(eightOfEach + tell, 2, eightOfEach.length());
        }
    }

    private static void seventhBracket() {
        CHECKS.about("a 7th ( within one another (at it).");
        String deep = "((((((1))))))";
        for (String ahead : List.of("law ", "law 1==", "soft 1 ", "bin not ", "next 1==1 and ", "share 1 if 1<=", "law 1+2*")) {
            boolean left = !ahead.endsWith("=");
            READS.good(ahead + deep + (left ? "==1;" : ";"));
            READS.fault(ahead + "(" + deep + ")==1;", 2, ahead.length() + 6);
        }
        READS.good("share " + deep + ";");
        READS.fault("share (" + deep + ");", 2, 12);
        READS.good("law " + deep + "+" + deep + "==" + deep + "and " + deep + "<" + deep + ";law " + deep + "==1;");
        READS.good("law (1+(1+(1+(1+(1+(1)+(1))+(1))+(1))+(1))+(1))==1;");
        READS.fault("law (1+(1+(1+(1+(1+(1)+(1)+(1+(1", 2, 30);
        READS.fault("law (((((( (", 2, 11);
        READS.good("law " + "(1)+".repeat(79) + "1==1;");
    }

    private static void onlyIfNone() {
        CHECKS.about("If there is none, likewise:");
        READS.fault("field a from 0 to 1;field a from 0 to 1;law", 1, 43);
        READS.fault("law b==1;law ?", 1, 13);
        READS.fault("field a from 1 to 0;" + "bin 1==1;".repeat(9), 2, 92);
        READS.fault("field a from 0 to 9999;field b from 0 to 9999;share (((((((", 2, 58);
        READS.fault("law a==1;law b==1;", 4, 4);
        READS.fault("field a from 2 to 1;law b==1;", 5, 18);
        READS.fault("law b==1;field a from 2 to 1;", 4, 4);
        READS.fault("field a from 0 to 9;field a from 2 to 1;", 3, 26);
        READS.fault("law old a==1;field a from 0 to 9;", 5, 4);
        READS.fault("field a from 0 to 9999;field b from 0 to 9999;law c==1;", 6, 29);
        READS.fault("field a from 0 to 9999;law c==1;field b from 0 to 9999;", 4, 27);
    }

    private static void twice() {
        CHECKS.about("3 TWICE: a FIELD's NAME told already.");
        READS.fault("field a from 0 to 1;field a from 0 to 1;", 3, 26);
        READS.fault("field a from 0 to 1;field b from 0 to 1;  field  a from 0 to 1;", 3, 49);
        READS.fault("field abcdefgh from 0 to 1;field abcdefgh from 0 to 1;", 3, 33);
        READS.fault("field a from 0 to 1;law a==1;field a from 5 to 5;", 3, 35);
        READS.fault("field a from 0 to 1;field a from 0 to 1;field a from 0 to 1;", 3, 26);
        READS.good("field a from 0 to 1;field aa from 0 to 1;field b from 0 to 1;");
        LawfulLots lots = Texts.lotsOf("field a from 0 to 1;");
        CHECKS.due("a FIELD of the text ahead", Texts.read(lots, "field a from 0 to 1;"), 0);
    }

    private static void unknown() {
        CHECKS.about("4 NAME: no FIELD told so ahead.");
        READS.fault("law a==1;", 4, 4);
        READS.fault("law a==1;field a from 0 to 1;", 4, 4);
        READS.fault("field a from 0 to 1;law a==b;field b from 0 to 1;", 4, 27);
        READS.fault("field a from 0 to 1;soft 1 1==1 or aa==1;", 4, 35);
        READS.fault("field aa from 0 to 1;bin a==1;", 4, 25);
        READS.fault("field a from 0 to 1;share b if a==1;", 4, 26);
        READS.fault("field a from 0 to 1;share a if ((b))==1;", 4, 33);
        READS.fault("field a from 0 to 1;next old b==1;", 4, 29);
        READS.fault("field abcdefgh from 0 to 1;law abcdefgi==1;", 4, 31);
        READS.good("field a from 0 to 1;law a==1;field b from 0 to 1;law b==a;");
        LawfulLots lots = Texts.lotsOf("field a from 0 to 1;");
        CHECKS.due("a FIELD of the text ahead", Texts.read(lots, "law a==1;"), 4);
        CHECKS.due("its place", lots.place(), 4);
    }

    private static void toBelowFrom() {
        CHECKS.about("5 WRONG: to, if it is below from;");
        READS.good("field a from 0 to 0;");
        READS.good("field a from 9999 to 9999;");
        READS.good("field a from 0005 to 5;");
        READS.fault("field a from 1 to 0;", 5, 18);
        READS.fault("field a from 5 to 4;", 5, 18);
        READS.fault("field a from 9999 to   9998;", 5, 23);
        READS.fault("field a from 10 to 9;", 5, 19);
        READS.fault("field a from 0 to 9;field b from 9999 to 0;", 5, 41);
        READS.fault("field a from 1 to 0;field a from 1 to 0;", 5, 18);
    }

    private static void oldOutside() {
        CHECKS.about("old outside of next.");
        String a = "field a from 0 to 1;";
        READS.fault(a + "law old a==1;", 5, 24);
        READS.fault(a + "law 1==old a;", 5, 27);
        READS.fault(a + "soft 1 old a==1;", 5, 27);
        READS.fault(a + "bin 1==1 or (old a)==1;", 5, 33);
        READS.fault(a + "share old a;", 5, 26);
        READS.fault(a + "share a if old a==1;", 5, 31);
        READS.fault(a + "next old a==1;share old a;", 5, 40);
        READS.fault(a + "law old b==1;", 5, 24);
        READS.good(a + "next old a==1;next 1==1 and not (old a)+1<=a;");
    }

    private static void many() {
        CHECKS.about("6 MANY: at a field's NAME: all fields up to it have more than 32,768 INPUTS.");
        READS.good("field a from 0 to 9999;");
        READS.good("field a from 1 to 8;field b from 1 to 4096;");
        READS.good("field a from 0 to 31;field b from 0 to 1023;field c from 7 to 7;");
        READS.good("field a from 0 to 7;field b from 0 to 7;field c from 0 to 7;field d from 0 to 7;field e from 0 to 7;");
        READS.fault("field a from 0 to 8;field b from 0 to 3640;", 6, 26);
        READS.fault("field a from 0 to 3640;field b from 0 to 8;", 6, 29);
        READS.fault("field a from 0 to 31;field b from 0 to 1023;field c from 0 to 1;", 6, 50);
        READS.fault("field a from 0 to 9999;  field  b from 0 to 9999;field c from 0 to 9999;field d from 0 to 9999;", 6, 32);
        READS.fault("field a from 0 to 255;field b from 0 to 255;field c from 0 to 255;field d from 0 to 255;", 6, 28);
        LawfulLots lots = Texts.lotsOf("field a from 1 to 8;field b from 1 to 4096;");
        CHECKS.due("as many as can be", lots.count(6), 32768);
        CHECKS.due("all of them LAWFUL", lots.lawful(), 32768);
    }

    private static LawfulLots inUse() {
        LawfulLots lots = Texts.lotsOf("field a from 0 to 3;law a<3;law 0<a;soft 2 a!=1;bin a==2;bin a==3;bin a==0;share a+1;"
            + "next old a<=a;");
        lots.draw(1, 1);
        lots.turn(0, false);
        lots.draw(1, 2);
        lots.draw(1, 3);
        return lots;
    }

    private static void changesNothing() {
        CHECKS.about("A text with a FAULT changes nothing;");
        for (int n = 0; n < EACH_FAULT.size(); n++) {
            LawfulLots lots = inUse();
            String before = Snapshot.of(lots);
            CHECKS.due("FAULT " + (n + 1), Texts.read(lots, EACH_FAULT.get(n)), n + 1);
            CHECKS.due("behind FAULT " + (n + 1), Snapshot.of(lots), before);
            CHECKS.due("the law that is OFF stays so", lots.turn(0, false), false);
            LawfulLots unread = inUse();
            CHECKS.due("looked at only behind FAULT " + (n + 1), Texts.read(unread, EACH_FAULT.get(n)), n + 1);
            CHECKS.due("as without it", Snapshot.of(unread), before);
        }
    }

    private static void inPlaceOfTheOneAhead() {
        CHECKS.about("else it is in place of the one ahead: all laws are ON, no INPUT is in the LOG.");
        String next = "field b from 4 to 6;law b<6;law b!=4;bin b==5;";
        for (String text : List.of(next, "", "law 1==2;soft 1 1==1;")) {
            LawfulLots lots = inUse();
            Snapshot.of(lots);
            CHECKS.due("read() of [" + text + "]", Texts.read(lots, text), 0);
            CHECKS.due("as a new object with [" + text + "]", Snapshot.of(lots), Snapshot.of(Texts.lotsOf(text)));
            CHECKS.due("no INPUT in the LOG", lots.count(7), 0);
        }
        LawfulLots lots = Texts.lotsOf(next);
        lots.turn(0, false);
        lots.draw(1, 1);
        CHECKS.due("the same text again", Texts.read(lots, next), 0);
        CHECKS.due("law 0 is ON", lots.turn(0, true), false);
        CHECKS.due("law 1 is ON", lots.turn(1, true), false);
        CHECKS.due("no HITS", lots.hits(0), 0);
        CHECKS.due("no INPUT in the LOG", lots.logged(0, 0), -1);
    }

    /** Texts that leave much of all sorts behind, and some that tell little. */
    private static List<String> unlikeTexts() {
        String wide = "field a from 1 to 2;field b from 3 to 5;field c from 0 to 1;field d from 2 to 4;field e from 7 to 8;"
            + "field f from 0 to 2;";
        return List.of("", wide + "law f<2;soft 1 e==8;bin d==3;bin f==1;share d if b!=4;share c;next c!=old c;",
            "field z from 4 to 6;field y from 0 to 9;law 4<y;bin y==9 and z==5;bin y!=5;bin z==6 or y==8;share 3;", "share 5 if 1==2;share 9 if 1==1;",
            "share 5;share 9;", "field a from 0 to 31;field b from 0 to 1023;law a==31;", "bin 0" + "+1".repeat(197) + "==197;",
            "field a from 0 to 7;" + "law a!=3;".repeat(8) + "soft 1 a<5;".repeat(8) + "bin a==2;".repeat(8), FULL + "law",
            "law b==1;share 4 if " + "1==1 and ".repeat(90) + "1==1;", "field q from 5 to 4;field r from 0 to 9999;",
            "law 1==1 or not 1+2*", "share 9-(2*(1");
    }

    private static void behindAnyTwo() {
        CHECKS.about("else it is in place of the one ahead:");
        List<String> texts = unlikeTexts();
        for (String last : texts) {
            LawfulLots fresh = new LawfulLots();
            if (Texts.read(fresh, last) != 0) {
                continue;
            }
            String want = Snapshot.of(fresh);
            for (String first : texts) {
                for (String second : texts) {
                    LawfulLots x = new LawfulLots();
                    Texts.read(x, first);
                    x.draw(1, 1);
                    Texts.read(x, second);
                    x.turn(0, false);
                    CHECKS.due("read() of [" + last + "]", Texts.read(x, last), 0);
                    CHECKS.due("behind [" + first + "], [" + second + "]", Snapshot.of(x), want);
                }
            }
        }
    }

    private static void readAgainAndAgain() {
        CHECKS.about("else it is in place of the one ahead:");
        LawfulLots x = new LawfulLots();
        for (int n = 0; n < 5; n++) {
            CHECKS.due("a text with a FAULT at its end", Texts.read(x, FULL + "law"), 2);
            CHECKS.due("400 TOKENS", Texts.read(x, FULL), 0);
            CHECKS.due("32,768 INPUTS", Texts.read(x, "field a from 0 to 31;field b from 0 to 1023;"), 0);
            CHECKS.due("all of them", x.count(6), 32768);
        }
    }

    private static void tapeIsEmptyThen() {
        CHECKS.about("The tape, which is empty then, is read: 0, or the number of its FAULT.");
        LawfulLots lots = new LawfulLots();
        CHECKS.due("an empty tape", lots.read(), 0);
        for (int n = 0; n < EACH_FAULT.size(); n++) {
            CHECKS.due("FAULT " + (n + 1), Texts.read(lots, EACH_FAULT.get(n)), n + 1);
            CHECKS.due("bytes left", lots.count(8), 0);
            CHECKS.due("nothing can go", lots.back(1), -1);
        }
        CHECKS.due("nothing is left of it", lots.read(), 0);
        CHECKS.due("without FAULT", Texts.read(lots, "law 1==1;"), 0);
        CHECKS.due("bytes left", lots.count(8), 0);
        CHECKS.due("a law", lots.count(1), 1);
        CHECKS.due("the empty tape", lots.read(), 0);
        CHECKS.due("no law", lots.count(1), 0);
    }

    private static void latestPlace() {
        CHECKS.about("The byte of the latest read()'s FAULT; NONE without.");
        LawfulLots lots = new LawfulLots();
        CHECKS.due("no read() yet", lots.place(), -1);
        Texts.read(lots, " ?");
        CHECKS.due("the first", lots.place(), 1);
        CHECKS.due("asked again", lots.place(), 1);
        lots.feed(0x20202020, 0x20202020, 0x20202020, 0x20202020, 0x20202020);
        lots.back(20);
        lots.turn(0, true);
        CHECKS.due("other calls do not change it", lots.place(), 1);
        Texts.read(lots, "law b==1;");
        CHECKS.due("a later one", lots.place(), 4);
        lots.read();
        CHECKS.due("without FAULT", lots.place(), -1);
        Texts.read(lots, "?");
        CHECKS.due("byte 0", lots.place(), 0);
    }

    public static void main(String[] args) {
        syntax();
        firstByPlace();
        textsEnd();
        leastOfOnePlace();
        tokens();
        fullTextsHold();
        seventhField();
        ninthOfASort();
        seventhBracket();
        onlyIfNone();
        twice();
        unknown();
        toBelowFrom();
        oldOutside();
        many();
        changesNothing();
        inPlaceOfTheOneAhead();
        behindAnyTwo();
        readAgainAndAgain();
        tapeIsEmptyThen();
        latestPlace();
        CHECKS.end();
    }
}
