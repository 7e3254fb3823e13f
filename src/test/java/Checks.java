/** Counts answers that are not the ones that are due, and tells them. */
final class Checks {
    private int made = 0;
    private int wrong = 0;
    private String sentence = "";
    private int madeBefore = 0;

    /** What follows is a test of this sentence of the document. */
    void about(String words) {
        endSentence();
        sentence = words;
        madeBefore = made;
    }

    private void endSentence() {
        if (!sentence.isEmpty() && made == madeBefore) {
            wrong++;
            System.out.println("<" + sentence + "> was not looked at");
        }
        sentence = "";
    }

    void due(String what, long got, long want) {
        made++;
        if (got != want) {
            wrong++;
            String told = sentence.isEmpty() ? what : "<" + sentence + "> " + what;
            System.out.println(told + " answered " + got + ", due is " + want);
        }
    }

    void due(String what, boolean got, boolean want) {
        due(what, got ? 1 : 0, want ? 1 : 0);
    }

    /** The texts of a failure may be long, so only the first place where they part is told. */
    void due(String what, String got, String want) {
        int same = 0;
        while (same < got.length() && same < want.length() && got.charAt(same) == want.charAt(same)) {
            same++;
        }
        String part = got.substring(Math.max(0, got.lastIndexOf('\n', same)), Math.min(got.length(), same + 20));
        due(got.equals(want) ? what : what + ", near" + part, got.equals(want), true);
    }

    int wrong() {
        return wrong;
    }

    void end() {
        endSentence();
        System.out.println(made + " answers looked at, " + wrong + " of them wrong");
        if (wrong != 0 || made == 0) {
            System.exit(1);
        }
    }
}
