/** All that an object answers, without a change of it: to see what a call changed, and that a refused one changed nothing. */
final class Snapshot {
    private Snapshot() {
    }

    static String of(LawfulLots x) {
        StringBuilder text = new StringBuilder();
        for (int what = 0; what < 8; what++) {
            tell(text, "count " + what, x.count(what));
        }
        tell(text, "lawful", x.lawful());
        tell(text, "kept", x.kept());
        tell(text, "sum", x.sum());
        tell(text, "quarrel", x.quarrel());
        tell(text, "fill", x.fill());
        tell(text, "fills", x.fills(0));
        tell(text, "best", x.best());
        tell(text, "fallen", x.fallen(0));
        for (int n = 0; n < 3; n++) {
            tell(text, "value 0 " + n, x.value(0, n));
            tell(text, "value of the last, " + n, x.value(x.lawful() - 1, n));
            tell(text, "share " + n, x.share(n));
            tell(text, "alone " + n, x.alone(n));
            tell(text, "meets " + n, x.meets(n));
            tell(text, "hits " + n, x.hits(n));
            tell(text, "least " + n, x.least(n));
            tell(text, "logged " + n, x.logged(n, 0));
        }
        tell(text, "rows", x.rows(2));
        tell(text, "row", x.row(2, 1, 1));
        return text.toString();
    }

    private static void tell(StringBuilder text, String call, long answer) {
        text.append('\n').append(call).append(": ").append(answer);
    }
}
