import java.util.function.IntUnaryOperator;

/** Looks at a call at the first and the last argument that are answered, and outside of them on either side. */
final class Spans {
    private Spans() {
    }

    /** Answers behind the last one, where an argument taken by its lowest bits alone would be mistaken for a good one. */
    private static final int[] FAR = {31, 32, 64, 256, 65536, Integer.MAX_VALUE};

    static void due(Checks checks, String call, IntUnaryOperator answer, int first, int last, int atFirst, int atLast) {
        checks.due(call + " of the first, " + first, answer.applyAsInt(first), atFirst);
        checks.due(call + " of the last, " + last, answer.applyAsInt(last), atLast);
        none(checks, call, answer, first, last);
    }

    /** Nothing is answered below first and above last. */
    static void none(Checks checks, String call, IntUnaryOperator answer, int first, int last) {
        checks.due(call + " ahead of the first", answer.applyAsInt(first - 1), -1);
        checks.due(call + " of the least int", answer.applyAsInt(Integer.MIN_VALUE), -1);
        checks.due(call + " behind the last, " + (last + 1), answer.applyAsInt(last + 1), -1);
        for (int far : FAR) {
            if (far > last) {
                checks.due(call + " of " + far, answer.applyAsInt(far), -1);
            }
        }
    }
}
