/** Promises 4 and 5: tokens, grammar and FAULTS of a text, with their places. */
public final class FaultsTest {
    private static final Checks CHECKS = new Checks();

    private static void fault(String text, int number, int place) {
        LawfulLots lots = Texts.lotsOf("field keep from 3 to 4; law keep == 4; bin keep == 4;");
        lots.turn(0, false);
        lots.draw(1, 1);
        CHECKS.due("read() of [" + text + "]", Texts.read(lots, text), number);
        CHECKS.due("place() of [" + text + "]", lots.place(), place);
        CHECKS.due("bytes behind [" + text + "]", lots.count(8), 0);
        if (number != 0) {
            CHECKS.due("INPUTS behind [" + text + "]", lots.count(6), 2);
            CHECKS.due("law OFF behind [" + text + "]", lots.lawful(), 2);
            CHECKS.due("LOG behind [" + text + "]", lots.count(7), 1);
        } else {
            CHECKS.due("LOG behind [" + text + "]", lots.count(7), 0);
        }
    }

    private static void good(String text) {
        fault(text, 0, -1);
    }

    private static void tokens() {
        good("");
        good(" \t\n\r ");
        good("law 1==1;");
        good("law 1==1;law 0001 != 9999 ;");
        good("field abcdefg8 from 0to 9;law abcdefg8<=9and 1<2;");
        good("field lawa from 0 to 1; law lawa < 1;");
        fault("law law == 1;", 1, 4);
        fault("field if from 0 to 1;", 1, 6);
        fault("field abcdefghi from 0 to 1;", 1, 6);
        fault("law 12345 == 1;", 1, 4);
        fault("law 1 = 1;", 1, 6);
        fault("law 1 === 1;", 1, 8);
        fault("law 1 ! 1;", 1, 6);
        fault("law 1 > 1;", 1, 6);
        fault("law 1 < = 1;", 1, 8);
        fault("law A == 1;", 1, 4);
        fault("field aB from 0 to 1;", 1, 7);
        fault("law 1 == 1;\u0000", 1, 11);
        fault("law 1 == 1;\u000b", 1, 11);
        fault("law 1 == 1;\u00e9", 1, 11);
        fault("law 1 == 1.", 1, 10);
        fault("field 1a from 0 to 1;", 1, 6);
        fault("law9 1 == 1;", 1, 0);
    }

    private static void syntax() {
        fault("law 1 == 1", 1, 10);
        fault("law 1 == 1  ", 1, 12);
        fault("law", 1, 3);
        fault("bogus", 1, 0);
        fault(";", 1, 0);
        fault("law 1;", 1, 5);
        fault("law (1 == 1);", 1, 7);
        fault("law 1 == 1 == 1;", 1, 11);
        fault("law 1 == 1);", 1, 10);
        fault("law (1 + (2) == 1;", 1, 13);
        fault("law - 1 == 1;", 1, 4);
        fault("law 1 + not 1 == 1;", 1, 8);
        fault("law 1 == 1 and;", 1, 14);
        fault("law 1 == 1 or or 1 == 1;", 1, 14);
        fault("law 1 == 1 if 1 == 1;", 1, 11);
        fault("law ( ) == 1;", 1, 6);
        fault("soft 1 == 1;", 1, 7);
        fault("soft a 1 == 1;", 1, 5);
        fault("share 1 == 1;", 1, 8);
        fault("share 1 if;", 1, 10);
        fault("share 1 if 1 == 1 if 1 == 1;", 1, 18);
        fault("share;", 1, 5);
        fault("next old 1 == 1;", 1, 9);
        fault("next old (1) == 1;", 1, 9);
        fault("next old old a == 1;", 1, 9);
        fault("field a from 0 to 1 law 1 == 1;", 1, 20);
        fault("field a from 0 to a;", 1, 18);
        fault("field a from 0 + 1 to 3;", 1, 15);
        fault("field a to 0 from 1;", 1, 8);
        fault("field a b from 0 to 1;", 1, 8);
        good("share (1) * 2 - 3 if not not not 1 + 1 <= 2 and 1 != 2 or 3 < 4; soft 0 1 == 1;");
    }

    private static String times(String one, int n) {
        return one.repeat(n);
    }

    private static void room() {
        String six = "field a from 0 to 1; field b from 0 to 1; field c from 0 to 1; field d from 0 to 1;"
            + "field e from 0 to 1; field f from 0 to 1;";
        good(six);
        fault(six + " field g from 0 to 1;", 2, six.length() + 1);
        fault(six + " field", 2, six.length() + 1);
        fault(six + " wrong", 1, six.length() + 1);
        for (String tell : new String[] {"law 1 == 1;", "soft 1 1 == 1;", "bin 1 == 1;", "next 1 == 1;", "share 1;"}) {
            good(times(tell, 8));
            fault(times(tell, 9), 2, 8 * tell.length());
        }
        good("law ((((((1)))))) + ((((((1)))))) == 2;");
        fault("law (((((((1))))))) == 1;", 2, 10);
        fault("law 2 * ((((((1 + (1)))))) == 1;", 2, 18);
        fault("law 1 ((((((((1", 1, 6);
        tokenRoom();
    }

    private static void tokenRoom() {
        // law, 1, 196 times "+ 1", ==, 1, ; are 397 TOKENS.
        String long397 = "law 1" + times("+1", 196) + "==1;";
        good(long397);
        fault(long397 + "law 1 + 1 == 2;", 2, long397.length() + 8);
        fault(long397 + "law 1 + + 1 == 2;", 1, long397.length() + 8);
        fault(long397 + "law 1 + ", 1, long397.length() + 8);
        fault(long397 + "law 1 + #", 1, long397.length() + 8);
        good(times("law 1 == 1; ", 3) + "law 1" + times("+1", 190) + "==1;");
        String nots = "law " + times("not ", 396) + "1==1";
        fault(nots + ";", 2, nots.length());
        good("law " + times("not ", 395) + "1==1;");
        String long400 = long397 + "share 1;";
        good(long400);
        fault(long400 + " law", 2, long400.length() + 1);
        fault(long400 + " )", 1, long400.length() + 1);
        fault(long400 + " law1", 1, long400.length() + 1);
        fault(long400 + " ?", 1, long400.length() + 1);
        good(long400 + "  ");
        fault(long397 + "law 1 ==", 1, long397.length() + 8);
    }

    private static void meaning() {
        fault("field a from 0 to 1; field a from 0 to 1;", 3, 27);
        fault("law a == 1; field a from 0 to 1;", 4, 4);
        fault("field a from 0 to 1; law ab == 1;", 4, 25);
        fault("field a from 0 to 1; next old b == 1;", 4, 30);
        fault("field a from 5 to 4;", 5, 18);
        good("field a from 5 to 5;");
        fault("field a from 0 to 1; law old a == 1;", 5, 25);
        fault("field a from 0 to 1; share old a;", 5, 27);
        fault("field a from 0 to 1; bin 1 == old b;", 5, 30);
        good("field a from 0 to 1; next old a == a;");
        good("field a from 0 to 32; field b from 0 to 991;");
        good("field a from 0 to 31; field b from 0 to 1023;");
        fault("field a from 0 to 32; field b from 0 to 1023;", 6, 28);
        fault("field a from 0 to 9999; field b from 1 to 9999; field c from 1 to 9999;", 6, 30);
        fault("field a from 0 to 9999; field a from 0 to 9999;", 3, 30);
        fault("field a from 0 to 9999; field b from 3 to 2; field b from 0 to 9999;", 5, 42);
        fault("law x == 1; law 1 == ", 1, 21);
        fault("field a from 5 to 4; law 1 == 1 1", 1, 32);
        fault("law x == y; field a from 1 to 0;", 4, 4);
        fault("law x == 1;" + times("bin 1 == 1;", 9), 2, 99);
    }

    public static void main(String[] args) {
        CHECKS.due("place() of a new one", new LawfulLots().place(), -1);
        tokens();
        syntax();
        room();
        meaning();
        CHECKS.end();
    }
}
