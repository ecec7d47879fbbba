import java.util.ArrayList;
import java.util.HashSet;
import java.util.LinkedHashSet;
import java.util.List;
import java.util.Map;
import java.util.Set;
import java.util.regex.Matcher;
import java.util.regex.Pattern;

/**
 * A law read in another way than the class does: where a token can't stand is found by an Earley recogniser over the
 * document's grammar, the other faults by going through the tokens.
 */
final class PlainLaw {
    private static final Pattern TOKEN = Pattern.compile("[A-Za-z]+|[0-9]+|[ \n]+|(?s:.)");
    private static final Set<String> WORDS = Set.of("sleep", "act", "letter", "fee", "interest", "proof", "when",
        "sum", "years", "kind", "heirs", "or", "and", "not", ";", "+", "-", "*", "/", "(", ")", "<", "=", ">");
    private static final Map<String, String[]> GRAMMAR = Map.of(
        "TEXT", new String[] {"", "TEXT LINE ;"},
        "LINE", new String[] {"sleep N N", "act N", "letter N", "fee N", "interest N N", "proof E", "proof E when B"},
        "E", new String[] {"T", "E + T", "E - T"},
        "T", new String[] {"U", "T * U", "T / N"},
        "U", new String[] {"N", "sum", "years", "kind", "heirs", "( E )"},
        "B", new String[] {"C", "B or C"},
        "C", new String[] {"D", "C and D"},
        "D", new String[] {"E < E", "E = E", "E > E", "not D"});

    int fault = 0;
    int place = -1;
    int lines = 0;
    final int[] sleep = {5, 5, 5, 5};
    int sorts = 0;
    int letter = 30;
    int fee = 10;
    int interest = 0;
    int interestYears = 0;
    private final List<String> tokens = new ArrayList<>();
    private final List<Integer> places = new ArrayList<>();
    private int at;
    private Map<String, Integer> names;

    PlainLaw(String text) {
        Matcher m = TOKEN.matcher(text);
        while (m.find()) {
            if (!m.group().isBlank() || "\t\r\f\u000b\u001c\u001d\u001e\u001f".contains(m.group())) {
                tokens.add(m.group());
                places.add(m.start());
            }
        }
        int bad = firstThatCannotStand();
        note(1, bad == tokens.size() ? text.length() : bad < 0 ? -1 : places.get(bad));
        otherFaults(bad < 0 ? tokens.size() : bad);
        if (fault == 0) {
            take();
        }
    }

    private void note(int sort, int where) {
        boolean first = fault == 0 || where < place || where == place && sort < fault;
        if (where >= 0 && first) {
            fault = sort;
            place = where;
        }
    }

    // ---- fault 1

    private record Item(String head, String[] body, int dot, int from) {
        String key() {
            return head + "/" + String.join(" ", body) + "/" + dot + "/" + from;
        }
    }

    private static String terminal(String token) {
        if (token.matches("[0-9]{1,5}")) {
            return "N";
        }
        return WORDS.contains(token) ? token : "?";
    }

    /** The index of the first token that can't stand; the number of tokens if it is the end; -1 if none. */
    private int firstThatCannotStand() {
        List<List<Item>> sets = new ArrayList<>();
        List<Item> start = new ArrayList<>();
        for (String body : GRAMMAR.get("TEXT")) {
            start.add(new Item("TEXT", split(body), 0, 0));
        }
        sets.add(start);
        for (int i = 0; i <= tokens.size(); i++) {
            close(sets, i);
            if (i == tokens.size()) {
                break;
            }
            List<Item> next = new ArrayList<>();
            for (Item item : sets.get(i)) {
                if (item.dot < item.body.length && item.body[item.dot].equals(terminal(tokens.get(i)))) {
                    next.add(new Item(item.head, item.body, item.dot + 1, item.from));
                }
            }
            if (next.isEmpty()) {
                return i;
            }
            sets.add(next);
        }
        for (Item item : sets.get(tokens.size())) {
            if (item.head.equals("TEXT") && item.dot == item.body.length && item.from == 0) {
                return -1;
            }
        }
        return tokens.size();
    }

    private static String[] split(String body) {
        return body.isEmpty() ? new String[0] : body.split(" ");
    }

    private static void close(List<List<Item>> sets, int i) {
        List<Item> set = sets.get(i);
        Set<String> seen = new HashSet<>();
        List<Item> unique = new ArrayList<>();
        for (Item item : set) {
            if (seen.add(item.key())) {
                unique.add(item);
            }
        }
        set.clear();
        set.addAll(unique);
        for (int k = 0; k < set.size(); k++) {
            Item item = set.get(k);
            List<Item> more = new ArrayList<>();
            if (item.dot == item.body.length) {
                for (Item one : new ArrayList<>(sets.get(item.from))) {
                    if (one.dot < one.body.length && one.body[one.dot].equals(item.head)) {
                        more.add(new Item(one.head, one.body, one.dot + 1, one.from));
                    }
                }
            } else if (GRAMMAR.containsKey(item.body[item.dot])) {
                String head = item.body[item.dot];
                for (String body : GRAMMAR.get(head)) {
                    more.add(new Item(head, split(body), 0, i));
                }
                // TEXT can be empty, so one that was done here already is gone over at once.
                if (head.equals("TEXT") && i == 0) {
                    more.add(new Item(item.head, item.body, item.dot + 1, item.from));
                }
            }
            for (Item one : more) {
                if (seen.add(one.key())) {
                    set.add(one);
                }
            }
        }
    }

    // ---- faults 2 and 3, of tokens ahead of the one that can't stand

    private void otherFaults(int end) {
        int line = 1;
        int first = 0;
        int brackets = 0;
        int nots = 0;
        for (int i = 0; i < end; i++) {
            String token = tokens.get(i);
            if (i == first && line == 25) {
                note(3, places.get(i));
            }
            if (terminal(token).equals("N") && Integer.parseInt(token) > greatest(first, i)) {
                note(2, places.get(i));
            }
            if (i > 0 && tokens.get(i - 1).equals("/") && token.matches("0+")) {
                note(2, places.get(i));
            }
            switch (token) {
                case "(" -> brackets++;
                case ")" -> brackets--;
                case "not" -> nots++;
                case "and", "or" -> nots = 0;
                case ";" -> {
                    nots = 0;
                    line++;
                    first = i + 1;
                }
                default -> { }
            }
            if ((token.equals("(") || token.equals("not")) && brackets + nots == 9) {
                note(3, places.get(i));
            }
        }
    }

    private int greatest(int first, int i) {
        return switch (tokens.get(first)) {
            case "sleep" -> i == first + 1 ? 3 : 40;
            case "act" -> 5;
            case "letter" -> 999;
            case "fee" -> 100;
            case "interest" -> i == first + 1 ? 200 : 40;
            default -> 99999;
        };
    }

    // ---- what it tells

    private void take() {
        for (at = 0; at < tokens.size(); at++) {
            switch (tokens.get(at)) {
                case "sleep" -> sleep[number(1)] = number(2);
                case "act" -> sorts |= 1 << number(1);
                case "letter" -> letter = number(1);
                case "fee" -> fee = number(1);
                case "interest" -> {
                    interest = number(1);
                    interestYears = number(2);
                }
                case ";" -> lines++;
                default -> { }
            }
        }
        sorts = sorts == 0 ? 63 : sorts;
    }

    private int number(int offset) {
        return Integer.parseInt(tokens.get(at + offset));
    }

    int asked(int sum, int years, int kind, int heirs) {
        names = Map.of("sum", sum, "years", years, "kind", kind, "heirs", heirs);
        int most = 0;
        Set<Integer> starts = new LinkedHashSet<>();
        for (int i = 0; i < tokens.size(); i++) {
            if (tokens.get(i).equals("proof")) {
                starts.add(i);
            }
        }
        for (int start : starts) {
            int end = start;
            int when = -1;
            while (!tokens.get(end).equals(";")) {
                when = tokens.get(end).equals("when") ? end : when;
                end++;
            }
            boolean isSo = when < 0 || isSo(when + 1, end);
            int points = reckon(start + 1, when < 0 ? end : when);
            most = isSo ? Math.max(most, points) : most;
        }
        return most;
    }

    /** Splits at the last sign of the least strength that is in no bracket; -1 if there is none. */
    private int lastOf(int from, int to, Set<String> signs) {
        int depth = 0;
        for (int i = to - 1; i >= from; i--) {
            String token = tokens.get(i);
            depth += token.equals(")") ? 1 : token.equals("(") ? -1 : 0;
            if (depth == 0 && signs.contains(token)) {
                return i;
            }
        }
        return -1;
    }

    private boolean isSo(int from, int to) {
        int split = lastOf(from, to, Set.of("or"));
        if (split >= 0) {
            return isSo(from, split) || isSo(split + 1, to);
        }
        split = lastOf(from, to, Set.of("and"));
        if (split >= 0) {
            return isSo(from, split) && isSo(split + 1, to);
        }
        if (tokens.get(from).equals("not")) {
            return !isSo(from + 1, to);
        }
        split = lastOf(from, to, Set.of("<", "=", ">"));
        int left = reckon(from, split);
        int right = reckon(split + 1, to);
        return switch (tokens.get(split)) {
            case "<" -> left < right;
            case "=" -> left == right;
            default -> left > right;
        };
    }

    private int reckon(int from, int to) {
        int split = lastOf(from, to, Set.of("+", "-"));
        if (split < 0) {
            split = lastOf(from, to, Set.of("*", "/"));
        }
        if (split >= 0) {
            int left = reckon(from, split);
            int right = reckon(split + 1, to);
            return switch (tokens.get(split)) {
                case "+" -> left + right;
                case "-" -> left - right;
                case "*" -> left * right;
                default -> left / right;
            };
        }
        if (tokens.get(from).equals("(")) {
            return reckon(from + 1, to - 1);
        }
        Integer named = names.get(tokens.get(from));
        return named != null ? named : Integer.parseInt(tokens.get(from));
    }
}
