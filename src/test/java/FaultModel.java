import java.util.ArrayList;
import java.util.HashMap;
import java.util.LinkedHashSet;
import java.util.List;
import java.util.Map;

/**
 * FAULTS found in another way than BuoyVote does: by Earley's sets over the grammars, in which a set that is empty
 * tells the first sign at which no text can go on.
 */
final class FaultModel {
    private static final int NONE = -1;
    private static final FaultModel LAW = new FaultModel(lawGrammar());
    private static final FaultModel PLAN = new FaultModel(planGrammar());
    private static final FaultModel BOROUGH = new FaultModel(boroughGrammar());

    private record Item(String left, String right, int dot, int from) { }

    private static final String START = "TEXT";

    private final Map<String, List<String>> rules;

    private FaultModel(Map<String, List<String>> rules) {
        this.rules = rules;
    }

    static int law(String text) {
        return LAW.fault(text);
    }

    static int plan(String text) {
        return PLAN.fault(text);
    }

    static int borough(String text) {
        int fault = BOROUGH.fault(text);
        int other = boroughBounds(text, fault == NONE ? text.length() : fault);
        if (other != NONE) {
            return other;
        }
        return fault == NONE && !whole(text) ? text.length() : fault;
    }

    /** Words of a right side are parted by blanks; one without rules is a sign, or a number's first digit or more. */
    private static void rule(Map<String, List<String>> rules, String left, String... rights) {
        rules.put(left, List.of(rights));
    }

    private static Map<String, List<String>> lawGrammar() {
        Map<String, List<String>> g = new HashMap<>();
        rule(g, "TEXT", "CLAUSE", "CLAUSE ; TEXT");
        rule(g, "CLAUSE", "y : SUM0", "y : CONDITION0 ? SUM0");
        for (int d = 0; d <= 6; d++) {
            rule(g, "CONDITION" + d, "TRUTH" + d, "TRUTH" + d + " | CONDITION" + d);
            rule(g, "TRUTH" + d, "UNIT" + d, "UNIT" + d + " & TRUTH" + d);
            String plain = "SUM" + d + " COMPARISON SUM" + d;
            if (d < 6) {
                rule(g, "UNIT" + d, plain, "! UNIT" + (d + 1), "( CONDITION" + (d + 1) + " )");
                rule(g, "ATOM" + d, "NUMBER", "LETTER", "[ SUM" + (d + 1) + " ]");
            } else {
                rule(g, "UNIT" + d, plain);
                rule(g, "ATOM" + d, "NUMBER", "LETTER");
            }
            rule(g, "SUM" + d, "TERM" + d, "TERM" + d + " + SUM" + d, "TERM" + d + " - SUM" + d);
            rule(g, "TERM" + d, "ATOM" + d, "ATOM" + d + " * TERM" + d, "ATOM" + d + " / TERM" + d);
        }
        rule(g, "COMPARISON", "=", "<", ">");
        rule(g, "NUMBER", "first", "first more", "first more more", "first more more more");
        rule(g, "LETTER", "v", "l", "r", "d", "p", "h");
        return g;
    }

    private static Map<String, List<String>> planGrammar() {
        Map<String, List<String>> g = new HashMap<>();
        StringBuilder steps = new StringBuilder("STEP");
        String[] rows = new String[16];
        for (int i = 0; i < 16; i++) {
            rows[i] = steps.toString();
            steps.append(" ; STEP");
        }
        rule(g, "TEXT", rows);
        rule(g, "STEP", "g DIGIT DIGIT DIGIT", "s DIGIT DIGIT", "c DIGIT DIGIT", "h DIGIT");
        rule(g, "DIGIT", "first", "more");
        return g;
    }

    private static Map<String, List<String>> boroughGrammar() {
        Map<String, List<String>> g = new HashMap<>();
        rule(g, "TEXT", "CLAUSE", "CLAUSE ; TEXT");
        rule(g, "CLAUSE", "s", "b", "c", "s RULES", "b BUOY", "c BOAT");
        rule(g, "RULES", "RULE NUMBER", "RULE NUMBER RULES");
        rule(g, "RULE", "w", "d", "t", "h");
        rule(g, "BUOY", "OF-BUOY NUMBER", "OF-BUOY NUMBER BUOY");
        rule(g, "OF-BUOY", "x", "y", "c", "a", "e", "f", "o", "r");
        rule(g, "BOAT", "OF-BOAT NUMBER", "OF-BOAT NUMBER BOAT");
        rule(g, "OF-BOAT", "x", "y", "s", "v");
        rule(g, "NUMBER", "first", "first more");
        return g;
    }

    private static String word(String text, int i) {
        char sign = text.charAt(i);
        if (sign < '0' || sign > '9') {
            return String.valueOf(sign);
        }
        return i > 0 && text.charAt(i - 1) >= '0' && text.charAt(i - 1) <= '9' ? "more" : "first";
    }

    private int fault(String text) {
        List<LinkedHashSet<Item>> sets = new ArrayList<>();
        LinkedHashSet<Item> first = new LinkedHashSet<>();
        for (String right : rules.get(START)) {
            first.add(new Item(START, right, 0, 0));
        }
        sets.add(first);
        for (int i = 0; i < text.length(); i++) {
            if (text.charAt(i) == ' ') {
                continue;
            }
            List<Item> all = close(sets);
            LinkedHashSet<Item> next = new LinkedHashSet<>();
            for (Item item : all) {
                String[] words = item.right.split(" ");
                if (item.dot < words.length && !rules.containsKey(words[item.dot])
                    && words[item.dot].equals(word(text, i))) {
                    next.add(new Item(item.left, item.right, item.dot + 1, item.from));
                }
            }
            if (next.isEmpty()) {
                return i;
            }
            sets.add(next);
        }
        for (Item item : close(sets)) {
            if (item.left.equals(START) && item.from == 0 && item.dot == item.right.split(" ").length) {
                return NONE;
            }
        }
        return text.length();
    }

    private List<Item> close(List<LinkedHashSet<Item>> sets) {
        LinkedHashSet<Item> last = sets.get(sets.size() - 1);
        List<Item> queue = new ArrayList<>(last);
        for (int q = 0; q < queue.size(); q++) {
            Item item = queue.get(q);
            String[] words = item.right.split(" ");
            List<Item> more = new ArrayList<>();
            if (item.dot == words.length) {
                for (Item waiting : sets.get(item.from)) {
                    String[] w = waiting.right.split(" ");
                    if (waiting.dot < w.length && w[waiting.dot].equals(item.left)) {
                        more.add(new Item(waiting.left, waiting.right, waiting.dot + 1, waiting.from));
                    }
                }
            } else if (rules.containsKey(words[item.dot])) {
                for (String right : rules.get(words[item.dot])) {
                    more.add(new Item(words[item.dot], right, 0, sets.size() - 1));
                }
            }
            for (Item one : more) {
                if (last.add(one)) {
                    queue.add(one);
                }
            }
        }
        return queue;
    }

    /** The first of: a number out of bounds, a letter twice, a CLAUSE too many, ahead of a byte; NONE without. */
    private static int boroughBounds(String text, int ahead) {
        Map<Character, Integer> clauses = new HashMap<>();
        String letters = "";
        char kind = 0;
        for (int i = 0; i < ahead; i++) {
            char sign = text.charAt(i);
            if (sign == ';') {
                kind = 0;
            } else if (sign >= 'a' && sign <= 'z' && kind == 0) {
                kind = sign;
                letters = "";
                clauses.merge(kind, 1, Integer::sum);
                if (clauses.get(kind) > (kind == 's' ? 1 : kind == 'b' ? 8 : 3)) {
                    return i;
                }
            } else if (sign >= 'a' && sign <= 'z') {
                if (letters.indexOf(sign) >= 0) {
                    return i;
                }
                letters += sign;
            } else if (sign >= '0' && sign <= '9') {
                int end = i;
                while (end < text.length() && Character.isDigit(text.charAt(end))) {
                    end++;
                }
                int value = end - i > 2 ? 0 : Integer.parseInt(text.substring(i, end));
                if (end - i <= 2 && !fits(kind, letters.charAt(letters.length() - 1), value)) {
                    return end - 1;
                }
                i = end - 1;
            }
        }
        return NONE;
    }

    private static boolean fits(char kind, char letter, int value) {
        switch ("" + kind + letter) {
            case "sd": return value <= 3;
            case "st": return value >= 1 && value <= 12;
            case "sh": return value >= 1 && value <= 20;
            case "bo": return value <= 3;
            case "cs": return value >= 1 && value <= 4;
            default: return value <= 9;
        }
    }

    private static boolean whole(String text) {
        int buoys = 0;
        int boats = 0;
        List<String> places = new ArrayList<>();
        for (String clause : text.replace(" ", "").split(";")) {
            boats += clause.startsWith("c") ? 1 : 0;
            if (clause.startsWith("b")) {
                buoys++;
                places.add(coordinate(clause, 'x') + "," + coordinate(clause, 'y'));
            }
        }
        return buoys > 0 && boats > 1 && places.stream().distinct().count() == buoys;
    }

    private static int coordinate(String clause, char letter) {
        int found = clause.indexOf(letter);
        return found < 0 ? 0 : Integer.parseInt(clause.substring(found + 1).replaceAll("[^0-9].*", ""));
    }
}
