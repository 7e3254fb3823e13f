import java.util.List;

/** "Terms", up to the FAULTS: each sentence that names an edge of the text, of a TOKEN or of an E has a test of its own. */
public final class EdgesOfTokensTest {
    private static final Checks CHECKS = new Checks();
    private static final Reads READS = new Reads(CHECKS);
    private static final String GREATEST = "(2147*1000*1000+483*1000+647)";

    private static boolean isBlank(char c) {
        return c == 9 || c == 10 || c == 13 || c == 32;
    }

    private static boolean isLetter(char c) {
        return c >= 'a' && c <= 'z';
    }

    private static boolean isDigit(char c) {
        return c >= '0' && c <= '9';
    }

    private static void fullText() {
        CHECKS.about("THE TEXT has 2,000 bytes at most.");
        LawfulLots lots = new LawfulLots();
        CHECKS.due("2,000 bytes", Texts.read(lots, " ".repeat(1990) + "law 1 ==1;"), 0);
        CHECKS.due("the law at its end", lots.count(1), 1);
        READS.fault(" ".repeat(1990) + "law 1 ==1?", 1, 1999);
        READS.fault(" ".repeat(1991) + "law 1 ==1", 1, 2000);
        READS.fault("law " + "0".repeat(1995), 1, 4);
        READS.fault("a".repeat(2000), 1, 0);
    }

    private static void longestTokens() {
        CHECKS.about("TOKENS, the longest that can be");
        READS.good("law 1<=1;");
        READS.refused("law 1<=", "=", "1;");
        READS.refused("law 1==", "=", "1;");
        READS.refused("law 1!=", "=", "1;");
        READS.refused("law 1<", "<", "1;");
        READS.refused("law 1", "=", " =1;");
        READS.refused("law 1", "!", " =1;");
        READS.refused("law 1< ", "=", "1;");
        READS.refused("", "lawnot", " 1==1;");
        READS.good("field lawnot from 0 to 1;law lawnot==1;");
        READS.good("field old1 from 0 to 1;law old1==1;");
        READS.refused("law 1==1", "and1", "==1;");
        READS.good("law 1==1and 1==1;");
        READS.good("field a from 0to 1;");
        LawfulLots lots = Texts.lotsOf("field a from 0 to 1;bin a<=1;bin a<1;bin 10==1;bin 10==9+1;");
        CHECKS.due("<= is one sign", lots.meets(0), 2);
        CHECKS.due("< is another", lots.meets(1), 1);
        CHECKS.due("10 is not 1", lots.meets(2), 0);
        CHECKS.due("10 is one INT", lots.meets(3), 2);
    }

    private static void blanks() {
        CHECKS.about("with blanks (9, 10, 13, 32) between or not");
        READS.good("\t\n\r law\t1\n==\r1 ;\t\n\r ");
        READS.good("law 1+(1)*1==1;law not 1<1or 1<=1and 1!=1;");
        for (char c = 0; c < 256; c++) {
            if (isBlank(c)) {
                READS.good("law" + c + "1==1;" + c);
                READS.refused("law 1" + c, "1", "==1;");
            } else {
                READS.refused("law 1==1;", String.valueOf(c), "");
            }
        }
    }

    private static void firstLetters() {
        CHECKS.about("NAMES (a letter a .. z,");
        for (char c = 0; c < 256; c++) {
            if (isLetter(c) || isBlank(c)) {
                READS.good("field " + c + "b from 0 to 1;");
            } else {
                READS.refused("field ", c + "b", " from 0 to 1;");
            }
        }
    }

    private static void laterLetters() {
        CHECKS.about("then letters and digits,");
        for (char c = 0; c < 256; c++) {
            if (isLetter(c) || isDigit(c)) {
                READS.good("field a" + c + "b from 0 to 1;");
            } else {
                READS.fault("field a" + c + "b from 0 to 1;", 1, isBlank(c) ? 8 : 7);
            }
        }
        READS.good("field abcdefgh from 0 to 1;field abcdefg1 from 0 to 1;field bbcdefgh from 0 to 1;field abcdefg from 0 to 1;");
    }

    private static void lengthsOfNames() {
        CHECKS.about("at most 8;");
        for (int length = 1; length <= 12; length++) {
            String letters = "zyxwvutsrqpo".substring(0, length);
            String digits = "a99999999999".substring(0, length);
            if (length <= 8) {
                READS.good("field " + letters + " from 0 to 1;law " + letters + "==1;");
                READS.good("field " + digits + " from 0 to 1;law " + digits + "==1;");
            } else {
                READS.refused("field ", letters, " from 0 to 1;");
                READS.refused("law ", digits, "==1;");
            }
        }
    }

    private static void wordsAreNoNames() {
        CHECKS.about("none of the words in quotes)");
        for (String word : Reads.WORDS) {
            READS.refused("field ", word, " from 0 to 1;");
            READS.good("field " + word + "s from 0 to 1;law " + word + "s==1;");
            READS.good("field " + word + "0 from 0 to 1;law " + word + "0==1;");
            String cut = word.substring(0, word.length() - 1);
            READS.good("field " + cut + " from 0 to 1;law " + cut + "==1;");
        }
    }

    private static void ints() {
        CHECKS.about("INTS (1 to 4 digits),");
        for (String digits : List.of("0", "9", "10", "90", "999", "0000", "0001", "1000", "9999")) {
            LawfulLots lots = Texts.lotsOf("bin " + digits + "==" + Integer.parseInt(digits) + ";");
            CHECKS.due(digits + " is what it is", lots.meets(0), 1);
        }
        for (String digits : List.of("00000", "00001", "10000", "12345", "65536", "4294967297", "18446744073709551617")) {
            READS.refused("law ", digits, "==1;");
            READS.refused("soft ", digits, " 1==1;");
            READS.refused("field a from 0 to ", digits, ";");
        }
        LawfulLots lots = Texts.lotsOf("field a from 0007 to 0009;soft 0002 a==8;soft 10 a!=8;");
        CHECKS.due("leading zeros", lots.value(0, 0), 7);
        CHECKS.due("leading zeros of a soft one", lots.kept(), 2);
    }

    private static void signs() {
        CHECKS.about("SIGNS ; + - * == != < <= ( ) .");
        for (char c = 0; c < 256; c++) {
            String text = "law 1" + c + "1==1;";
            if (isDigit(c) || c == '+' || c == '-' || c == '*') {
                READS.good(text);
            } else if (c == '<') {
                READS.fault(text, 1, 7);
            } else {
                READS.fault(text, 1, isBlank(c) ? 6 : 5);
            }
        }
        for (String sign : List.of("==", "!=", "<", "<=")) {
            READS.good("law (1)" + sign + "(1);");
        }
    }

    private static void longerOnesAndAllElse() {
        CHECKS.about("A longer one, all else, is no TOKEN.");
        READS.refused("", "fieldfield", " a from 0 to 1;");
        READS.refused("field a ", "fromabcde", " 0 to 1;");
        READS.refused("law 1==1 ", "andandand", " 1==1;");
        for (String none : List.of("=", "!", ">", ">=", "&", "|", "/", "%", ",", ":", ".", "\"", "'", "[", "{", "_", "A", "Z", "\u0000",
                "\u007f", "\u0080", "\u00a0", "\u00ff")) {
            READS.refused("", none, "");
            READS.refused("law 1==1;", none, "");
            READS.refused("law 1", none, "1==1;");
            READS.refused("law ", none, "1==1;");
        }
    }

    private static void noTells() {
        CHECKS.about("text: {TELL}.");
        for (String text : List.of("", " ", "\t\n\r ")) {
            LawfulLots lots = Texts.lotsOf("field a from 0 to 1;law a==1;");
            CHECKS.due("read() of nothing", Texts.read(lots, text), 0);
            CHECKS.due("no FIELDS", lots.count(0), 0);
            CHECKS.due("no laws", lots.count(1), 0);
            CHECKS.due("the one INPUT", lots.lawful(), 1);
        }
    }

    private static void numbers() {
        CHECKS.about("numbered from 0 on, each sort by itself.");
        LawfulLots lots = Texts.lotsOf("bin 1==1;share 5;field a from 3 to 4;law a==4;bin a==3;soft 1 a==3;field b from 6 to 6;"
            + "soft 1 a==4;next 1==2;law b==7;");
        CHECKS.due("law 1 is the last one", lots.turn(1, false), true);
        CHECKS.due("there is no law 2", lots.turn(2, false), false);
        CHECKS.due("law 0 is ON", lots.lawful(), 1);
        CHECKS.due("FIELD 0", lots.value(0, 0), 4);
        CHECKS.due("FIELD 1", lots.value(0, 1), 6);
        CHECKS.due("soft one 1", lots.kept(), 2);
        CHECKS.due("bin 0", lots.meets(0), 1);
        CHECKS.due("bin 1", lots.meets(1), 0);
        CHECKS.due("there is no bin 2", lots.meets(2), -1);
        CHECKS.due("share 0", lots.share(0), 5);
        CHECKS.due("next 0", lots.rows(2), 0);
    }

    private static void oldNames() {
        CHECKS.about("old NAME, in next alone, that of the INPUT ahead of it in a row.");
        LawfulLots lots = Texts.lotsOf("field a from 1 to 3;field b from 5 to 5;next a==old a+1 and old b==b;");
        CHECKS.due("12 and 23", lots.rows(2), 2);
        CHECKS.due("the one ahead", lots.row(2, 0, 0), 0);
        CHECKS.due("the one behind", lots.row(2, 0, 1), 1);
        CHECKS.due("123", lots.rows(3), 1);
    }

    private static void holds(String condition, boolean want) {
        LawfulLots lots = Texts.lotsOf("bin " + condition + ";");
        CHECKS.due(condition, lots.meets(0), want ? 1 : 0);
    }

    private static void wraps() {
        CHECKS.about("E's are ints of 32 bits that wrap.");
        holds("0<" + GREATEST, true);
        holds(GREATEST + "+1<0", true);
        holds("0-" + GREATEST + "-1<0", true);
        holds("0-" + GREATEST + "-2==" + GREATEST, true);
        holds("256*256*256*128<0", true);
        holds("256*256*256*256==0", true);
        holds("256*256*256*256*256+7==7", true);
        holds(GREATEST + "*" + GREATEST + "==1", true);
        holds("9999*9999*9999==9999*(9999*9999)", true);
        holds("(0-1)*(0-" + GREATEST + "-1)==0-" + GREATEST + "-1", true);
        holds("0-" + GREATEST + "-1<" + GREATEST, true);
        holds(GREATEST + "<=0-" + GREATEST + "-1", false);
        holds("0-1<0 and 0-1!=1", true);
        LawfulLots lots = Texts.lotsOf("share " + GREATEST + "+1 if 1==1;");
        CHECKS.due("a share wraps below 0", lots.share(0), 0);
        lots = Texts.lotsOf("share 0-" + GREATEST + "-2;");
        CHECKS.due("a share wraps above 1000", lots.share(0), 1000);
    }

    private static void orderOfSigns() {
        CHECKS.about("PART: UNIT {'*' UNIT}.");
        holds("9-4-3==2", true);
        holds("9-(4-3)==8", true);
        holds("2+3*4==14", true);
        holds("2*3+4==10", true);
        holds("2-3*4+1==0-9", true);
        holds("((((((2)+1)*2+1)*2+1)*2+1)*2+1)*2==126", true);
        holds("1+2*(1+2*(1+2*(1+2*(1+2*(1+2*(1))))))==127", true);
        holds("1-2*(1-2*(1-2*(1-2*(1-2*(1-2*(1))))))==43", true);
        holds("not 1==1 or 1==1", true);
        holds("not 1==2 and 1==2", false);
        holds("1==1 or 1==2 and 1==2", true);
        holds("1==2 and 1==2 or 1==1", true);
        holds("not not not 1==2", true);
        holds("1==2 or not 1==2 and not not 1==1", true);
    }

    private static void comparingSigns() {
        CHECKS.about("E ('==' | '!=' | '<' | '<=') E.");
        String[] signs = {"==", "!=", "<", "<="};
        boolean[][] holding = {{false, true, false}, {true, false, true}, {true, false, false}, {true, true, false}};
        String[] pairs = {"1 ? 2", "2 ? 2", "3 ? 2"};
        for (int sign = 0; sign < signs.length; sign++) {
            for (int pair = 0; pair < pairs.length; pair++) {
                String literal = pairs[pair].replace("?", signs[sign]);
                boolean want = holding[sign][pair];
                holds(literal, want);
                holds("not " + literal, !want);
                holds("not not " + literal, want);
                holds(literal + " and 1==1", want);
                holds("1==1 and not " + literal, !want);
                holds("1==2 or " + literal, want);
                holds(literal + " or 1==2", want);
                holds(literal + " and " + literal, want);
            }
        }
    }

    public static void main(String[] args) {
        fullText();
        longestTokens();
        blanks();
        firstLetters();
        laterLetters();
        lengthsOfNames();
        wordsAreNoNames();
        ints();
        signs();
        longerOnesAndAllElse();
        noTells();
        numbers();
        oldNames();
        wraps();
        orderOfSigns();
        comparingSigns();
        CHECKS.end();
    }
}
