import java.nio.charset.StandardCharsets;
import java.util.ArrayList;
import java.util.List;
import java.util.Random;

/** Runs of calls by lot, each answer held against the oracle's. The lots are the same each time. */
public final class OracleTest {
    private static final Checks CHECKS = new Checks();
    private static final int RUNS = 600;
    private static final int FAULTY_TEXTS = 6000;
    private static final int MOST_CALLS = 512;
    private static final int[] FAR_OFF = {-1, 31, 32, 64, Integer.MIN_VALUE, Integer.MAX_VALUE};

    private final Random random;
    private final LawfulLots lots = new LawfulLots();
    private final Oracle oracle = new Oracle();
    private final List<String> told = new ArrayList<>();
    private int calls = 0;

    private OracleTest(int seed) {
        random = new Random(seed);
    }

    private void due(String call, long got, long want) {
        calls++;
        told.add(call);
        CHECKS.due(call, got, want);
        if (got != want && CHECKS.wrong() < 3) {
            System.out.println("behind " + told);
        }
    }

    private int below(int n) {
        return random.nextInt(n);
    }

    private String one(String... texts) {
        return texts[below(texts.length)];
    }

    private void feed(String text) {
        byte[] bytes = text.getBytes(StandardCharsets.ISO_8859_1);
        told.add("[" + text + "]");
        for (int at = 0; at < bytes.length; at += 20) {
            int[] w = new int[5];
            for (int b = 0; b < 20; b++) {
                w[b / 4] = w[b / 4] << 8 | (at + b < bytes.length ? bytes[at + b] & 255 : below(256));
            }
            due("feed", lots.feed(w[0], w[1], w[2], w[3], w[4]), oracle.feed(w));
        }
        int more = (20 - bytes.length % 20) % 20;
        due("back(" + more + ")", lots.back(more), oracle.back(more));
    }

    private void read() {
        due("read()", lots.read(), oracle.read());
        due("place()", lots.place(), oracle.place());
    }

    // Texts by lot.

    private int names = 0;

    private String fieldName() {
        return names == 0 || below(60) == 0 ? "zz9" : "f" + below(names);
    }

    private String unit(int depth, boolean inNext) {
        int lot = below(10);
        if (lot < 3 || names == 0 && lot < 8) {
            return String.valueOf(below(10) == 0 ? below(10000) : below(6));
        }
        if (lot < 8) {
            return (inNext && below(2) == 0 || below(200) == 0 ? "old " : "") + fieldName();
        }
        return depth > (below(8) == 0 ? 7 : 2) ? "1" : "(" + expression(depth + 1, inNext) + ")";
    }

    private String expression(int depth, boolean inNext) {
        StringBuilder text = new StringBuilder(unit(depth, inNext));
        for (int more = below(5) - 2; more > 0; more--) {
            text.append(one("+", " - ", "*", " * ", "-", " + ")).append(unit(depth, inNext));
        }
        return text.toString();
    }

    private String condition(boolean inNext) {
        StringBuilder text = new StringBuilder();
        for (int more = 1 + below(3) * below(2); more > 0; more--) {
            for (int not = below(6) - 3; not > 0; not--) {
                text.append("not ");
            }
            text.append(expression(0, inNext)).append(one("==", " != ", "<", " <= ", " == ")).append(expression(0, inNext));
            text.append(more > 1 ? one(" and ", " or ", "\nor\t") : "");
        }
        return text.toString();
    }

    private String text(int mostInputs) {
        StringBuilder text = new StringBuilder();
        int fields = below(5);
        int left = mostInputs;
        names = 0;
        for (int f = 0; f < fields; f++) {
            int from = below(4) * below(3);
            int span = 1 + below(Math.max(1, Math.min(left, 12)));
            left /= span;
            String name = below(80) == 0 ? fieldName() : "f" + f;
            text.append("field ").append(name).append(" from ").append(from).append(" to ").append(from + span - 1).append(";");
            names = f + 1;
        }
        int tells = below(14);
        for (int t = 0; t < tells; t++) {
            String sort = one("law", "law", "soft", "bin", "bin", "bin", "next", "share");
            text.append(one(" ", "", "\n")).append(sort).append(" ");
            if (sort.equals("share")) {
                text.append(expression(0, false)).append(below(3) == 0 ? "" : " if " + condition(false));
            } else {
                text.append(sort.equals("soft") ? below(4) + " " : "").append(condition(sort.equals("next")));
            }
            text.append(";");
        }
        return text.length() > 1900 ? "" : text.toString();
    }

    /** A text whose laws and bins are near to what its fields can be, so that few of them hold always or never. */
    private String lively(int mostInputs) {
        StringBuilder text = new StringBuilder();
        names = 1 + below(3);
        int[] spans = new int[names];
        int[] froms = new int[names];
        int left = mostInputs;
        for (int f = 0; f < names; f++) {
            spans[f] = Math.max(1, Math.min(left, 2 + below(f == names - 1 ? left : 5)));
            froms[f] = below(3);
            left /= spans[f];
            text.append("field f").append(f).append(" from ").append(froms[f]).append(" to ").append(froms[f] + spans[f] - 1);
            text.append(";");
        }
        String[] sorts = {"law ", "soft ", "bin ", "next "};
        int[] many = {below(9), below(5), below(9), below(3)};
        for (int sort = 0; sort < sorts.length; sort++) {
            for (int n = 0; n < many[sort]; n++) {
                text.append(sorts[sort]).append(sort == 1 ? below(4) + " " : "").append(livelyCondition(spans, froms, sort));
                text.append(";");
            }
        }
        for (int n = below(4); n > 0; n--) {
            text.append("share f0 * ").append(below(400)).append(n == 1 ? "" : " if " + livelyCondition(spans, froms, 2));
            text.append(";");
        }
        return text.length() > 1900 ? "" : text.toString();
    }

    private String livelyCondition(int[] spans, int[] froms, int sort) {
        StringBuilder text = new StringBuilder();
        for (int more = sort == 2 ? below(3) : below(2); more >= 0; more--) {
            int f = below(names);
            int value = froms[f] + below(spans[f]);
            String other = sort == 3 ? "old f" + below(names) : below(5) == 0 ? "f" + below(names) : String.valueOf(value);
            String sign = sort == 2 ? one("==", "==", "<") : sort == 3 ? one("!=", "<=", "<=") : one("!=", "<=", "<", "!=");
            boolean swapped = below(3) == 0;
            text.append(below(12) == 0 ? "not " : "").append(swapped ? other : "f" + f).append(sign);
            text.append(swapped ? "f" + f : other).append(more > 0 ? " or " : "");
        }
        return text.toString();
    }

    private String spoiled(String text) {
        StringBuilder spoiled = new StringBuilder(text);
        for (int n = 1 + below(2); n > 0; n--) {
            int at = below(spoiled.length() + 1);
            int to = Math.min(spoiled.length(), at + 1 + below(3));
            switch (below(5)) {
                case 0 -> spoiled.delete(at, to);
                case 1 -> spoiled.insert(at, (char) below(256));
                case 2 -> spoiled.insert(at, one(";", "(", ")", " old ", "12345", " field ", " if ", "=", "<", " not ", " law "));
                case 3 -> spoiled.setLength(at);
                default -> spoiled.insert(at, spoiled.substring(at, Math.min(spoiled.length(), at + below(30))));
            }
        }
        return spoiled.length() > 1980 ? "" : spoiled.toString();
    }

    // Calls by lot.

    private int near(int n) {
        return below(12) == 0 ? FAR_OFF[below(FAR_OFF.length)] : below(n + 2) - (below(6) == 0 ? 1 : 0);
    }

    private void callOfInputs() {
        int k = near(lots.lawful());
        int field = near(lots.count(0));
        int x = near(Math.max(0, lots.sum()));
        long seed = random.nextLong() >> below(64);
        int i = below(5) == 0 ? random.nextInt() : below(30);
        switch (below(8)) {
            case 0 -> due("lawful()", lots.lawful(), oracle.lawful());
            case 1 -> due("kept()", lots.kept(), oracle.kept());
            case 2 -> due("value(" + k + ", " + field + ")", lots.value(k, field), oracle.value(k, field));
            case 3 -> due("share(" + k + ")", lots.share(k), oracle.share(k));
            case 4 -> due("sum()", lots.sum(), oracle.sum());
            case 5 -> due("pick(" + x + ")", lots.pick(x), oracle.pick(x));
            default -> due("draw(" + seed + ", " + i + ")", lots.draw(seed, i), oracle.draw(seed, i));
        }
    }

    private void callOfLaws() {
        int law = near(lots.count(1));
        boolean on = random.nextBoolean();
        switch (below(4)) {
            case 0 -> due("quarrel()", lots.quarrel(), oracle.quarrel());
            case 1 -> due("alone(" + law + ")", lots.alone(law), oracle.alone(law));
            default -> due("turn(" + law + ", " + on + ")", lots.turn(law, on) ? 1 : 0, oracle.turn(law, on) ? 1 : 0);
        }
    }

    private void callOfBins() {
        int bin = near(lots.count(3));
        int other = near(lots.count(3));
        switch (below(8)) {
            case 0 -> due("meets(" + bin + ")", lots.meets(bin), oracle.meets(bin));
            case 1 -> due("cross(" + bin + ", " + other + ")", lots.cross(bin, other), oracle.cross(bin, other));
            case 2 -> due("hits(" + bin + ")", lots.hits(bin), oracle.hits(bin));
            case 3 -> due("fill()", lots.fill(), oracle.fill());
            case 4, 5 -> due("fills(" + bin + ")", lots.fills(bin), oracle.fills(bin));
            case 6 -> due("best()", lots.best(), oracle.best());
            default -> due("least(" + bin + ")", lots.least(bin), oracle.least(bin));
        }
    }

    private void callOfLogAndRows() {
        int field = near(lots.count(0));
        int i = near(lots.count(7));
        int length = near(10);
        long rows = Math.max(0, lots.rows(length));
        long r = below(3) == 0 ? near(3) : rows - 1 - (rows > 1 ? Math.floorMod(random.nextLong(), rows) : 0);
        int k = near(Math.max(0, Math.min(10, length)));
        int what = near(9);
        switch (below(6)) {
            case 0 -> due("logged(" + i + ", " + field + ")", lots.logged(i, field), oracle.logged(i, field));
            case 1, 2 -> due("fallen(" + i + ")", lots.fallen(i), oracle.fallen(i));
            case 3 -> due("rows(" + length + ")", lots.rows(length), oracle.rows(length));
            case 4 -> due("row(" + length + ", " + r + ", " + k + ")", lots.row(length, r, k), oracle.row(length, r, k));
            default -> due("count(" + what + ")", lots.count(what), oracle.count(what));
        }
    }

    private void run() {
        int texts = 1 + below(4);
        for (int t = 0; t < texts; t++) {
            int mostInputs = below(6) == 0 ? 900 : 60;
            String text = below(4) == 0 ? text(mostInputs) : lively(mostInputs);
            feed(below(6) == 0 ? spoiled(text) : text);
            read();
            int most = below(90);
            for (int n = 0; n < most && calls < MOST_CALLS; n++) {
                switch (below(5)) {
                    case 0, 1 -> callOfInputs();
                    case 2 -> callOfLaws();
                    case 3 -> callOfBins();
                    default -> callOfLogAndRows();
                }
            }
        }
    }

    private void runFaulty() {
        String text = below(10) == 0 ? text(50) + text(50) + text(50) : below(10) == 0 ? text(1000000) : text(50);
        String wide = below(10) == 0 ? "field w from 0 to " + below(10000) + ";" + text : text;
        String put = below(3) == 0 ? wide : spoiled(wide);
        feed(put.length() > 1980 ? put.substring(0, 1980) : put);
        read();
        for (int what = 0; what < 9; what++) {
            due("count(" + what + ")", lots.count(what), oracle.count(what));
        }
    }

    public static void main(String[] args) {
        for (int seed = 0; seed < RUNS; seed++) {
            new OracleTest(seed).run();
        }
        for (int seed = 0; seed < FAULTY_TEXTS; seed++) {
            new OracleTest(-1 - seed).runFaulty();
        }
        CHECKS.end();
    }
}
