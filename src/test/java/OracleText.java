import java.util.ArrayList;
import java.util.List;
import java.util.Map;
import java.util.Set;
import java.util.regex.Matcher;
import java.util.regex.Pattern;

/** A text read in another way than the class reads it: by a table of states, then by cutting rows of tokens apart. */
final class OracleText {
    record Token(String text, int place) {
        boolean isName() {
            return text.matches("[a-z][a-z0-9]{0,7}") && !WORDS.contains(text);
        }

        boolean isInt() {
            return text.matches("[0-9]{1,4}");
        }

        boolean isToken() {
            return isName() || isInt() || WORDS.contains(text) || SIGNS.contains(text);
        }
    }

    record Field(String name, int from, int to) {
    }

    record Tell(String sort, int weight, List<Token> value, List<Token> condition) {
    }

    private enum State { TELL, FIELD, FROM, LEAST, TO, MOST, SEMICOLON, WEIGHT, LITERAL, UNIT, OLD, BEHIND }

    private static final Set<String> WORDS = Set.of("field", "from", "to", "law", "soft", "bin", "next", "share", "if", "or",
        "and", "not", "old");
    private static final Set<String> SIGNS = Set.of(";", "+", "-", "*", "==", "!=", "<", "<=", "(", ")");
    private static final Set<String> COMPARING = Set.of("==", "!=", "<", "<=");
    private static final Pattern NEXT_TOKEN = Pattern.compile("[a-z][a-z0-9]*|[0-9]+|==|!=|<=|[\\x00-\\xff]", Pattern.DOTALL);

    final List<Field> fields = new ArrayList<>();
    final List<Tell> tells = new ArrayList<>();
    int fault = 0;
    int place = -1;
    private final List<Token> tokens = new ArrayList<>();

    OracleText(String text) {
        cut(text);
        walk(text.length());
        if (fault == 0) {
            understand();
        }
    }

    private void cut(String text) {
        Matcher matcher = NEXT_TOKEN.matcher(text);
        int at = 0;
        while (at < text.length()) {
            if ("\t\n\r ".indexOf(text.charAt(at)) >= 0) {
                at++;
                continue;
            }
            matcher.region(at, text.length());
            if (!matcher.lookingAt()) {
                throw new IllegalStateException();
            }
            tokens.add(new Token(matcher.group(), at));
            at = matcher.end();
        }
    }

    private State state = State.TELL;
    private boolean inShare = false;
    private boolean compared = false;
    private int depth = 0;
    private final Map<String, Integer> told = new java.util.HashMap<>();

    private void walk(int length) {
        int n = 0;
        for (Token token : tokens) {
            n++;
            State next = token.isToken() ? step(token) : null;
            if (next == null) {
                fail(1, token.place());
                return;
            }
            boolean tooManyTold = state == State.TELL
                && told.merge(token.text(), 1, Integer::sum) > (token.text().equals("field") ? 6 : 8);
            if (n > 400 || tooManyTold || depth > 6) {
                fail(2, token.place());
                return;
            }
            state = next;
        }
        if (state != State.TELL) {
            fail(1, length);
        }
    }

    private void fail(int number, int at) {
        if (fault == 0 || at < place || at == place && number < fault) {
            fault = number;
            place = at;
        }
    }

    private State step(Token token) {
        String t = token.text();
        switch (state) {
            case TELL:
                inShare = t.equals("share");
                compared = false;
                return t.equals("field") ? State.FIELD : t.equals("soft") ? State.WEIGHT : inShare ? State.UNIT
                    : Set.of("law", "bin", "next").contains(t) ? State.LITERAL : null;
            case FIELD:
                return token.isName() ? State.FROM : null;
            case FROM:
                return t.equals("from") ? State.LEAST : null;
            case LEAST:
                return token.isInt() ? State.TO : null;
            case TO:
                return t.equals("to") ? State.MOST : null;
            case MOST:
                return token.isInt() ? State.SEMICOLON : null;
            case SEMICOLON:
                return t.equals(";") ? State.TELL : null;
            case WEIGHT:
                return token.isInt() ? State.LITERAL : null;
            case OLD:
                return token.isName() ? State.BEHIND : null;
            case BEHIND:
                return behindUnit(t);
            default:
                return atUnit(token);
        }
    }

    private State atUnit(Token token) {
        if (token.text().equals("not")) {
            return state == State.LITERAL ? State.LITERAL : null;
        }
        if (token.text().equals("(")) {
            depth++;
            return State.UNIT;
        }
        return token.text().equals("old") ? State.OLD : token.isName() || token.isInt() ? State.BEHIND : null;
    }

    private State behindUnit(String t) {
        if (Set.of("+", "-", "*").contains(t)) {
            return State.UNIT;
        }
        if (depth > 0) {
            depth -= t.equals(")") ? 1 : 0;
            return t.equals(")") ? State.BEHIND : null;
        }
        if (inShare) {
            inShare = !t.equals("if");
            return t.equals("if") ? State.LITERAL : t.equals(";") ? State.TELL : null;
        }
        if (!compared) {
            compared = COMPARING.contains(t);
            return compared ? State.UNIT : null;
        }
        compared = t.equals(";");
        return t.equals(";") ? State.TELL : t.equals("and") || t.equals("or") ? State.LITERAL : null;
    }

    private void understand() {
        List<Token> tell = new ArrayList<>();
        for (Token token : tokens) {
            tell.add(token);
            if (token.text().equals(";")) {
                understandTell(tell);
                tell = new ArrayList<>();
            }
        }
    }

    private void understandTell(List<Token> tell) {
        String sort = tell.get(0).text();
        if (sort.equals("field")) {
            understandField(tell);
            return;
        }
        lookAtNames(tell, sort);
        int last = tell.size() - 1;
        if (sort.equals("share")) {
            int cond = find(tell, "if");
            List<Token> value = new ArrayList<>(tell.subList(1, cond < 0 ? last : cond));
            tells.add(new Tell(sort, 0, value, cond < 0 ? null : new ArrayList<>(tell.subList(cond + 1, last))));
        } else if (sort.equals("soft")) {
            int weight = Integer.parseInt(tell.get(1).text());
            tells.add(new Tell(sort, weight, null, new ArrayList<>(tell.subList(2, last))));
        } else {
            tells.add(new Tell(sort, 0, null, new ArrayList<>(tell.subList(1, last))));
        }
    }

    private void understandField(List<Token> tell) {
        Token name = tell.get(1);
        int from = Integer.parseInt(tell.get(3).text());
        int to = Integer.parseInt(tell.get(5).text());
        if (fields.stream().anyMatch(f -> f.name().equals(name.text()))) {
            fail(3, name.place());
        }
        if (to < from) {
            fail(5, tell.get(5).place());
        }
        fields.add(new Field(name.text(), from, to));
        long inputs = 1;
        for (Field field : fields) {
            inputs = Math.min(inputs * Math.max(0, field.to() - field.from() + 1), 1L << 40);
        }
        if (inputs > 32768) {
            fail(6, name.place());
        }
    }

    private void lookAtNames(List<Token> tell, String sort) {
        for (Token token : tell) {
            if (token.isName() && fields.stream().noneMatch(f -> f.name().equals(token.text()))) {
                fail(4, token.place());
            }
            if (token.text().equals("old") && !sort.equals("next")) {
                fail(5, token.place());
            }
        }
    }

    private static int find(List<Token> row, String text) {
        for (int i = 0; i < row.size(); i++) {
            if (row.get(i).text().equals(text)) {
                return i;
            }
        }
        return -1;
    }

    static boolean holds(List<Token> row, Map<String, Integer> now, Map<String, Integer> old) {
        int or = find(row, "or");
        if (or >= 0) {
            return holds(row.subList(0, or), now, old) || holds(row.subList(or + 1, row.size()), now, old);
        }
        int and = find(row, "and");
        if (and >= 0) {
            return holds(row.subList(0, and), now, old) && holds(row.subList(and + 1, row.size()), now, old);
        }
        if (row.get(0).text().equals("not")) {
            return !holds(row.subList(1, row.size()), now, old);
        }
        for (int i = 0; i < row.size(); i++) {
            if (COMPARING.contains(row.get(i).text())) {
                int left = amount(row.subList(0, i), now, old);
                int right = amount(row.subList(i + 1, row.size()), now, old);
                return switch (row.get(i).text()) {
                    case "==" -> left == right;
                    case "!=" -> left != right;
                    case "<" -> left < right;
                    default -> left <= right;
                };
            }
        }
        throw new IllegalStateException();
    }

    static int amount(List<Token> row, Map<String, Integer> now, Map<String, Integer> old) {
        int plain = lastOutside(row, Set.of("+", "-"));
        int cut = plain >= 0 ? plain : lastOutside(row, Set.of("*"));
        if (cut >= 0) {
            int left = amount(row.subList(0, cut), now, old);
            int right = amount(row.subList(cut + 1, row.size()), now, old);
            return switch (row.get(cut).text()) {
                case "+" -> left + right;
                case "-" -> left - right;
                default -> left * right;
            };
        }
        Token first = row.get(0);
        if (first.text().equals("(")) {
            return amount(row.subList(1, row.size() - 1), now, old);
        }
        if (first.text().equals("old")) {
            return old.get(row.get(1).text());
        }
        return first.isInt() ? Integer.parseInt(first.text()) : now.get(first.text());
    }

    private static int lastOutside(List<Token> row, Set<String> signs) {
        int nested = 0;
        for (int i = row.size() - 1; i >= 0; i--) {
            String t = row.get(i).text();
            nested += t.equals(")") ? 1 : t.equals("(") ? -1 : 0;
            if (nested == 0 && signs.contains(t)) {
                return i;
            }
        }
        return -1;
    }
}
