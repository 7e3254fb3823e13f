/** Reads texts and looks at their FAULTS and places. */
final class Reads {
    static final java.util.List<String> WORDS = java.util.List.of("field", "from", "to", "law", "soft", "bin", "next", "share",
        "if", "or", "and", "not", "old");
    static final java.util.List<String> SIGNS = java.util.List.of(";", "+", "-", "*", "==", "!=", "<", "<=", "(", ")");
    private final Checks checks;

    Reads(Checks checks) {
        this.checks = checks;
    }

    void fault(String text, int number, int place) {
        LawfulLots lots = new LawfulLots();
        checks.due("read() of [" + text + "]", Texts.read(lots, text), number);
        checks.due("place() of [" + text + "]", lots.place(), place);
    }

    void good(String text) {
        fault(text, 0, -1);
    }

    /** What is put between two texts is no TOKEN, or one with which no text goes on. */
    void refused(String ahead, String what, String behind) {
        fault(ahead + what + behind, 1, ahead.length());
    }
}
