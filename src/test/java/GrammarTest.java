import java.util.ArrayList;
import java.util.Arrays;
import java.util.HashSet;
import java.util.LinkedHashMap;
import java.util.List;
import java.util.Map;
import java.util.Random;
import java.util.Set;
import java.util.TreeSet;

/**
 * Promise 4, SYNTAX: the document's grammar itself, rule by rule, says which TOKENS go on behind texts by lot (always the same
 * lots), by Earley's way of reading; read() must go on with these and with no others.
 */
public final class GrammarTest {
    private static final Checks CHECKS = new Checks();
    private static final int WALKS = 100;
    private static final int MOST_STEPS = 60;
    private static final int MOST_TELLS = 5;
    private static final int MOST_OPEN = 6;
    private static final Map<String, List<List<String>>> GRAMMAR = new LinkedHashMap<>();

    static {
        rule("text", "", "text TELL");
        rule("TELL", "field NAME from INT to INT ;", "law COND ;", "soft INT COND ;", "bin COND ;", "next COND ;", "share E ;",
            "share E if COND ;");
        rule("COND", "ALL", "COND or ALL");
        rule("ALL", "LIT", "ALL and LIT");
        rule("LIT", "not LIT", "E == E", "E != E", "E < E", "E <= E");
        rule("E", "PART", "E + PART", "E - PART");
        rule("PART", "UNIT", "PART * UNIT");
        rule("UNIT", "INT", "NAME", "old NAME", "( E )");
    }

    private static void rule(String name, String... ways) {
        List<List<String>> rows = new ArrayList<>();
        for (String way : ways) {
            rows.add(way.isEmpty() ? List.of() : Arrays.asList(way.split(" ")));
        }
        GRAMMAR.put(name, rows);
    }

    /** A rule of which the first parts are read, and the step at which it began. */
    private record Item(String name, List<String> parts, int read, int begun) {
        String next() {
            return read < parts.size() ? parts.get(read) : "";
        }

        Item further() {
            return new Item(name, parts, read + 1, begun);
        }
    }

    private final Random random;
    private final List<Set<Item>> steps = new ArrayList<>();
    private final StringBuilder text = new StringBuilder();
    private int open = 0;

    private GrammarTest(int seed) {
        random = new Random(seed);
        step(List.of(new Item("START", List.of("text"), 0, 0)));
    }

    private void step(List<Item> first) {
        Set<Item> items = new HashSet<>();
        List<Item> work = new ArrayList<>(first);
        steps.add(items);
        while (!work.isEmpty()) {
            Item item = work.remove(work.size() - 1);
            if (items.add(item)) {
                work.addAll(behind(item));
            }
        }
    }

    private List<Item> behind(Item item) {
        List<Item> more = new ArrayList<>();
        if (item.next().isEmpty()) {
            for (Item outer : List.copyOf(steps.get(item.begun()))) {
                if (outer.next().equals(item.name())) {
                    more.add(outer.further());
                }
            }
        } else if (GRAMMAR.containsKey(item.next())) {
            for (List<String> way : GRAMMAR.get(item.next())) {
                more.add(new Item(item.next(), way, 0, steps.size() - 1));
            }
            // Only 'text' can be nothing: it may have ended at this step before the item that waits for it came.
            if (item.next().equals("text")) {
                more.add(item.further());
            }
        }
        return more;
    }

    private Set<Item> now() {
        return steps.get(steps.size() - 1);
    }

    private Set<String> goingOn() {
        Set<String> kinds = new TreeSet<>();
        for (Item item : now()) {
            if (!item.next().isEmpty() && !GRAMMAR.containsKey(item.next())) {
                kinds.add(item.next());
            }
        }
        return kinds;
    }

    private boolean isWhole() {
        return now().contains(new Item("START", List.of("text"), 1, 0));
    }

    private static List<String> kinds() {
        List<String> all = new ArrayList<>(Reads.WORDS);
        all.addAll(Reads.SIGNS);
        all.addAll(List.of("NAME", "INT", "NONE"));
        return all;
    }

    private String one(String... texts) {
        return texts[random.nextInt(texts.length)];
    }

    private String spelled(String kind) {
        return switch (kind) {
            case "NAME" -> one("a", "b", "abcdefgh", "lawn", "if1");
            case "INT" -> one("0", "1", "0007", "9999");
            case "NONE" -> one("?", "=", "!", "A", "10000", "abcdefghi");
            default -> kind;
        };
    }

    private void look() {
        CHECKS.due("the end of [" + text + "]", fault(text.toString()) == 1, !isWhole());
        for (String kind : kinds()) {
            if (kind.equals("(") && open == MOST_OPEN) {
                continue;
            }
            String ahead = text + one(" ", "\n", "\t ");
            LawfulLots lots = new LawfulLots();
            String longer = ahead + spelled(kind);
            boolean refused = Texts.read(lots, longer) == 1 && lots.place() < longer.length();
            CHECKS.due(kind + " in [" + longer + "] is refused", refused, !goingOn().contains(kind));
            if (refused) {
                CHECKS.due("the place of " + kind + " in [" + longer + "]", lots.place(), ahead.length());
            }
        }
    }

    private static int fault(String text) {
        return Texts.read(new LawfulLots(), text);
    }

    private void take(String kind) {
        text.append(one(" ", " ", "\n")).append(spelled(kind));
        open += kind.equals("(") ? 1 : kind.equals(")") ? -1 : 0;
        List<Item> first = new ArrayList<>();
        for (Item item : now()) {
            if (item.next().equals(kind)) {
                first.add(item.further());
            }
        }
        step(first);
    }

    private void walk() {
        int tells = 0;
        for (int n = 0; n < MOST_STEPS && tells <= MOST_TELLS; n++) {
            look();
            List<String> ways = new ArrayList<>(goingOn());
            if (open == MOST_OPEN) {
                ways.remove("(");
            }
            String kind = ways.get(random.nextInt(ways.size()));
            take(kind);
            tells += kind.equals(";") ? 1 : 0;
        }
    }

    public static void main(String[] args) {
        for (int seed = 0; seed < WALKS; seed++) {
            new GrammarTest(seed).walk();
        }
        CHECKS.end();
    }
}
