import java.io.ByteArrayOutputStream;
import java.math.BigInteger;
import java.nio.charset.StandardCharsets;
import java.util.ArrayList;
import java.util.Arrays;
import java.util.Comparator;
import java.util.HashMap;
import java.util.List;
import java.util.Map;

/** The document's words followed without any thought of speed: all is worked out anew for each call. */
final class Oracle {
    private byte[] tape = new byte[0];
    private OracleText text = new OracleText("");
    private int place = -1;
    private List<Map<String, Integer>> inputs = List.of(Map.of());
    private boolean[] on = new boolean[0];
    private final List<Map<String, Integer>> log = new ArrayList<>();
    // Only for speed in tests: what does not change between a read or a turn and the next.
    private List<Map<String, Integer>> lawfulOnes = null;
    private int keptOnes = 0;

    int feed(int... words) {
        if (tape.length + 20 > 2000) {
            return -1;
        }
        ByteArrayOutputStream bytes = new ByteArrayOutputStream();
        bytes.writeBytes(tape);
        for (int word : words) {
            bytes.write(word >> 24);
            bytes.write(word >> 16);
            bytes.write(word >> 8);
            bytes.write(word);
        }
        tape = bytes.toByteArray();
        return tape.length;
    }

    int back(int n) {
        if (n < 0 || n > tape.length) {
            return -1;
        }
        tape = Arrays.copyOf(tape, tape.length - n);
        return tape.length;
    }

    int read() {
        OracleText next = new OracleText(new String(tape, StandardCharsets.ISO_8859_1));
        tape = new byte[0];
        place = next.place;
        if (next.fault == 0) {
            text = next;
            inputs = allInputs(0);
            on = new boolean[sort("law").size()];
            Arrays.fill(on, true);
            log.clear();
            lawfulOnes = null;
        }
        return next.fault;
    }

    int place() {
        return place;
    }

    private List<Map<String, Integer>> allInputs(int field) {
        List<Map<String, Integer>> all = new ArrayList<>();
        if (field == text.fields.size()) {
            all.add(new HashMap<>());
            return all;
        }
        List<Map<String, Integer>> rest = allInputs(field + 1);
        OracleText.Field told = text.fields.get(field);
        for (int v = told.from(); v <= told.to(); v++) {
            for (Map<String, Integer> one : rest) {
                Map<String, Integer> more = new HashMap<>(one);
                more.put(told.name(), v);
                all.add(more);
            }
        }
        return all;
    }

    private List<OracleText.Tell> sort(String sort) {
        return text.tells.stream().filter(t -> t.sort().equals(sort)).toList();
    }

    private static boolean holds(OracleText.Tell tell, Map<String, Integer> input) {
        return OracleText.holds(tell.condition(), input, null);
    }

    boolean turn(int law, boolean to) {
        if (law < 0 || law >= on.length || on[law] == to) {
            return false;
        }
        on[law] = to;
        lawfulOnes = null;
        return true;
    }

    private List<Map<String, Integer>> byLaws(int laws) {
        List<Map<String, Integer>> left = new ArrayList<>(inputs);
        for (int k = 0; k < on.length; k++) {
            if ((laws >> k & 1) != 0) {
                OracleText.Tell law = sort("law").get(k);
                left.removeIf(input -> !holds(law, input));
            }
        }
        return left;
    }

    private int onBits() {
        int bits = 0;
        for (int k = 0; k < on.length; k++) {
            bits |= on[k] ? 1 << k : 0;
        }
        return bits;
    }

    private List<Map<String, Integer>> lawfulList() {
        if (lawfulOnes != null) {
            return lawfulOnes;
        }
        List<Map<String, Integer>> left = byLaws(onBits());
        List<OracleText.Tell> soft = sort("soft");
        List<Integer> ranked = new ArrayList<>();
        for (int s = 0; s < soft.size(); s++) {
            ranked.add(s);
        }
        ranked.sort(Comparator.comparingInt(s -> -soft.get(s).weight()));
        keptOnes = 0;
        for (int s : ranked) {
            List<Map<String, Integer>> with = left.stream().filter(input -> holds(soft.get(s), input)).toList();
            if (!with.isEmpty()) {
                left = with;
                keptOnes |= 1 << s;
            }
        }
        lawfulOnes = left;
        return left;
    }

    int lawful() {
        return lawfulList().size();
    }

    int kept() {
        lawfulList();
        return keptOnes;
    }

    int value(int k, int field) {
        if (k < 0 || k >= lawful() || field < 0 || field >= text.fields.size()) {
            return -1;
        }
        return lawfulList().get(k).get(text.fields.get(field).name());
    }

    int share(int k) {
        if (k < 0 || k >= lawful()) {
            return -1;
        }
        Map<String, Integer> input = lawfulList().get(k);
        for (OracleText.Tell share : sort("share")) {
            if (share.condition() == null || holds(share, input)) {
                return Math.max(0, Math.min(1000, OracleText.amount(share.value(), input, null)));
            }
        }
        return 1;
    }

    int sum() {
        int all = 0;
        for (int k = 0; k < lawful(); k++) {
            all += share(k);
        }
        return all;
    }

    int pick(int x) {
        int upTo = 0;
        for (int k = 0; k < lawful() && x >= 0; k++) {
            upTo += share(k);
            if (upTo > x) {
                return k;
            }
        }
        return -1;
    }

    int draw(long seed, int i) {
        int all = sum();
        if (all == 0 || i < 0) {
            return -1;
        }
        BigInteger wrap = BigInteger.ONE.shiftLeft(64);
        BigInteger w = BigInteger.valueOf(seed).multiply(BigInteger.valueOf(31)).add(BigInteger.valueOf(i)).add(BigInteger.ONE)
            .multiply(new BigInteger("2862933555777941757")).mod(wrap);
        BigInteger v = w.xor(w.shiftRight(29));
        int k = pick(v.shiftRight(1).mod(BigInteger.valueOf(all)).intValue());
        if (log.size() < 200) {
            log.add(lawfulList().get(k));
        }
        return k;
    }

    int quarrel() {
        if (!byLaws(onBits()).isEmpty()) {
            return -1;
        }
        List<List<Integer>> sets = new ArrayList<>();
        for (int set = 0; set < 1 << on.length; set++) {
            if ((set & ~onBits()) == 0 && byLaws(set).isEmpty()) {
                List<Integer> members = new ArrayList<>();
                for (int k = 0; k < on.length; k++) {
                    if ((set >> k & 1) != 0) {
                        members.add(k);
                    }
                }
                sets.add(members);
            }
        }
        sets.sort((a, b) -> a.size() != b.size() ? a.size() - b.size() : Arrays.compare(ints(a), ints(b)));
        return sets.get(0).stream().mapToInt(k -> 1 << k).sum();
    }

    private static int[] ints(List<Integer> list) {
        return list.stream().mapToInt(k -> k).toArray();
    }

    int alone(int k) {
        if (k < 0 || k >= on.length || !on[k]) {
            return -1;
        }
        OracleText.Tell law = sort("law").get(k);
        return (int) byLaws(onBits() & ~(1 << k)).stream().filter(input -> !holds(law, input)).count();
    }

    private boolean hasBin(int bin) {
        return bin >= 0 && bin < sort("bin").size();
    }

    private boolean meet(Map<String, Integer> input, int bin) {
        return holds(sort("bin").get(bin), input);
    }

    int meets(int bin) {
        return hasBin(bin) ? (int) lawfulList().stream().filter(input -> meet(input, bin)).count() : -1;
    }

    int cross(int one, int other) {
        if (!hasBin(one) || !hasBin(other)) {
            return -1;
        }
        return (int) lawfulList().stream().filter(input -> meet(input, one) && meet(input, other)).count();
    }

    int hits(int bin) {
        return hasBin(bin) ? (int) log.stream().filter(input -> meet(input, bin)).count() : -1;
    }

    private List<Integer> fillList() {
        int wanted = 0;
        for (int bin = 0; bin < sort("bin").size(); bin++) {
            wanted |= meets(bin) > 0 && hits(bin) == 0 ? 1 << bin : 0;
        }
        int[] masks = new int[lawful()];
        for (int k = 0; k < masks.length; k++) {
            for (int bin = 0; bin < sort("bin").size(); bin++) {
                masks[k] |= meet(lawfulList().get(k), bin) ? 1 << bin : 0;
            }
        }
        for (int size = 0; ; size++) {
            List<Integer> found = cover(masks, 0, wanted, size);
            if (found != null) {
                return found;
            }
        }
    }

    /** All rising rows of a size are tried in their order. */
    private static List<Integer> cover(int[] masks, int start, int wanted, int size) {
        if (size == 0) {
            return wanted == 0 ? new ArrayList<>() : null;
        }
        for (int k = start; k < masks.length; k++) {
            if ((masks[k] & wanted) != 0) {
                List<Integer> rest = cover(masks, k + 1, wanted & ~masks[k], size - 1);
                if (rest != null) {
                    rest.add(0, k);
                    return rest;
                }
            }
        }
        return null;
    }

    int fill() {
        return fillList().size();
    }

    int fills(int i) {
        List<Integer> list = fillList();
        return i < 0 || i >= list.size() ? -1 : list.get(i);
    }

    int best() {
        int found = -1;
        int most = -1;
        for (int k = 0; k < lawful(); k++) {
            int met = 0;
            for (int bin = 0; bin < sort("bin").size(); bin++) {
                met += hits(bin) == 0 && meet(lawfulList().get(k), bin) ? 1 : 0;
            }
            if (met > most) {
                most = met;
                found = k;
            }
        }
        return found;
    }

    int least(int bin) {
        int found = -1;
        int low = Integer.MAX_VALUE;
        for (int k = 0; k < lawful() && hasBin(bin); k++) {
            Map<String, Integer> input = lawfulList().get(k);
            int height = text.fields.stream().mapToInt(f -> input.get(f.name()) - f.from()).sum();
            if (meet(input, bin) && height < low) {
                low = height;
                found = k;
            }
        }
        return found;
    }

    int logged(int i, int field) {
        if (i < 0 || i >= log.size() || field < 0 || field >= text.fields.size()) {
            return -1;
        }
        return log.get(i).get(text.fields.get(field).name());
    }

    int fallen(int i) {
        int before = 0;
        for (int n = 0; n < log.size(); n++) {
            if (!lawfulList().contains(log.get(n))) {
                if (before == i) {
                    return n;
                }
                before++;
            }
        }
        return -1;
    }

    private boolean follows(int ahead, int behind) {
        return sort("next").stream().allMatch(
            next -> OracleText.holds(next.condition(), lawfulList().get(behind), lawfulList().get(ahead)));
    }

    /** Counted by the last INPUT of a row, while the class counts by the first. */
    private BigInteger[] rowsEndingIn(int length, int first) {
        BigInteger[] ends = new BigInteger[lawful()];
        for (int k = 0; k < ends.length; k++) {
            ends[k] = first < 0 || first == k ? BigInteger.ONE : BigInteger.ZERO;
        }
        boolean[][] may = new boolean[ends.length][ends.length];
        for (int a = 0; a < ends.length; a++) {
            for (int b = 0; b < ends.length; b++) {
                may[a][b] = length > 1 && follows(a, b);
            }
        }
        for (int n = 1; n < length; n++) {
            BigInteger[] longer = new BigInteger[ends.length];
            for (int b = 0; b < ends.length; b++) {
                longer[b] = BigInteger.ZERO;
                for (int a = 0; a < ends.length; a++) {
                    longer[b] = may[a][b] ? longer[b].add(ends[a]) : longer[b];
                }
            }
            ends = longer;
        }
        return ends;
    }

    private boolean rowsThere(int length) {
        return length >= 1 && length <= 10 && lawful() >= 1 && lawful() <= 64;
    }

    long rows(int length) {
        return rowsThere(length) ? Arrays.stream(rowsEndingIn(length, -1)).reduce(BigInteger.ZERO, BigInteger::add).longValueExact()
            : -1;
    }

    int row(int length, long r, int k) {
        if (!rowsThere(length) || r < 0 || k < 0 || k >= length) {
            return -1;
        }
        BigInteger left = BigInteger.valueOf(r);
        int ahead = -1;
        for (int p = 0; p <= k; p++) {
            int chosen = -1;
            for (int c = 0; c < lawful() && chosen < 0; c++) {
                if (ahead >= 0 && !follows(ahead, c)) {
                    continue;
                }
                BigInteger ways = Arrays.stream(rowsEndingIn(length - p, c)).reduce(BigInteger.ZERO, BigInteger::add);
                if (left.compareTo(ways) < 0) {
                    chosen = c;
                } else {
                    left = left.subtract(ways);
                }
            }
            if (chosen < 0) {
                return -1;
            }
            ahead = chosen;
        }
        return ahead;
    }

    int count(int what) {
        return switch (what) {
            case 0 -> text.fields.size();
            case 1 -> sort("law").size();
            case 2 -> sort("soft").size();
            case 3 -> sort("bin").size();
            case 4 -> sort("next").size();
            case 5 -> sort("share").size();
            case 6 -> inputs.size();
            case 7 -> log.size();
            case 8 -> tape.length;
            default -> -1;
        };
    }
}
