import java.util.ArrayList;
import java.util.HashMap;
import java.util.List;
import java.util.Map;
import java.util.TreeSet;

/**
 * The document's definitions as they stand, with the Java library and recursion: whole examined
 * sets, whole trees. Its answers are compared with those of IncrementalPackrat.
 */
final class Reference {
    private record Item(int kind, int a, int b, int mode) {
        boolean isRule() {
            return kind == IncrementalPackrat.KIND_RULE;
        }

        boolean repeats() {
            return mode == IncrementalPackrat.MODE_STAR || mode == IncrementalPackrat.MODE_PLUS;
        }
    }

    private record Node(int rule, int start, int end, List<Node> children) {
    }

    /** A result of M, of an alternative or of an item: end -1 for a failure. */
    private static final class Result {
        int end = -1;
        final TreeSet<Integer> examined = new TreeSet<>();
        final List<Node> nodes = new ArrayList<>();
    }

    private final int rules;
    private final int capacity;
    private final List<List<List<Item>>> alternatives = new ArrayList<>();
    private List<Item> current = null;
    private int made = 0;
    private boolean frozen = false;
    private final StringBuilder text = new StringBuilder();
    private int furthest = -1;
    private final List<int[]> tree = new ArrayList<>();
    private final Map<Integer, Result> known = new HashMap<>();

    Reference(int rules, int capacity) {
        this.rules = Math.max(1, Math.min(8, rules));
        this.capacity = Math.max(8, Math.min(24, capacity));
        for (int r = 0; r < this.rules; r++) {
            alternatives.add(new ArrayList<>());
        }
    }

    int newAlt(int r) {
        if (frozen || r < 0 || r >= rules || made == 16) {
            return -1;
        }
        current = new ArrayList<>();
        alternatives.get(r).add(current);
        return made++;
    }

    int addItem(int kind, int a, int b, int mode) {
        boolean refused = frozen || current == null || kind < 0 || kind > 3 || mode < 0 || mode > 5
            || kind == 0 && (a < 0 || a > 65535)
            || kind == 1 && !(0 <= a && a <= b && b <= 65535)
            || kind == 3 && (a < 0 || a >= rules);
        if (refused || current.size() == 4) {
            return -1;
        }
        current.add(new Item(kind, a, b, mode));
        return current.size() - 1;
    }

    private boolean nullable(Item item, TreeSet<Integer> nullableRules) {
        return switch (item.mode()) {
            case IncrementalPackrat.MODE_ONE, IncrementalPackrat.MODE_PLUS ->
                item.isRule() && nullableRules.contains(item.a());
            default -> true;
        };
    }

    private TreeSet<Integer> nullableRules() {
        TreeSet<Integer> found = new TreeSet<>();
        for (boolean more = true; more;) {
            more = false;
            for (int r = 0; r < rules; r++) {
                for (List<Item> alt : alternatives.get(r)) {
                    if (alt.stream().allMatch(item -> nullable(item, found))) {
                        more |= found.add(r);
                    }
                }
            }
        }
        return found;
    }

    /** Which rules are reached from r by one call at start or more, added to seen. */
    private void follow(int r, TreeSet<Integer> nullableRules, TreeSet<Integer> seen) {
        for (List<Item> alt : alternatives.get(r)) {
            for (Item item : alt) {
                if (item.isRule() && seen.add(item.a())) {
                    follow(item.a(), nullableRules, seen);
                }
                if (!nullable(item, nullableRules)) {
                    break;
                }
            }
        }
    }

    int compile() {
        if (frozen) {
            return IncrementalPackrat.COMPILE_FROZEN;
        }
        TreeSet<Integer> nullableRules = nullableRules();
        for (List<List<Item>> rule : alternatives) {
            for (List<Item> alt : rule) {
                for (Item item : alt) {
                    if (item.repeats() && item.isRule() && nullableRules.contains(item.a())) {
                        return IncrementalPackrat.COMPILE_BAD_REPEAT;
                    }
                }
            }
        }
        for (int r = 0; r < rules; r++) {
            TreeSet<Integer> seen = new TreeSet<>();
            follow(r, nullableRules, seen);
            if (seen.contains(r)) {
                return IncrementalPackrat.COMPILE_LEFT_RECURSION;
            }
        }
        frozen = true;
        return IncrementalPackrat.COMPILE_OK;
    }

    private void edited() {
        furthest = -1;
        tree.clear();
    }

    boolean insertChar(int pos, char c) {
        if (pos < 0 || pos > text.length() || text.length() == capacity) {
            return false;
        }
        text.insert(pos, c);
        edited();
        return true;
    }

    private boolean outside(int pos, int len) {
        return pos < 0 || len < 1 || (long) pos + len > text.length();
    }

    boolean deleteRange(int pos, int len) {
        if (outside(pos, len)) {
            return false;
        }
        text.delete(pos, pos + len);
        edited();
        return true;
    }

    boolean replaceRange(int pos, int len, char c) {
        if (outside(pos, len)) {
            return false;
        }
        text.replace(pos, pos + len, String.valueOf(c));
        edited();
        return true;
    }

    private Result test(Item item, int q) {
        if (item.isRule()) {
            return evaluate(item.a(), q);
        }
        Result result = new Result();
        result.examined.add(q);
        if (q < text.length()) {
            int ch = text.charAt(q);
            boolean matches = switch (item.kind()) {
                case IncrementalPackrat.KIND_CHAR -> ch == item.a();
                case IncrementalPackrat.KIND_RANGE -> item.a() <= ch && ch <= item.b();
                default -> true;
            };
            result.end = matches ? q + 1 : -1;
        }
        return result;
    }

    private Result item(Item item, int q) {
        Result result = new Result();
        Result first = test(item, q);
        result.examined.addAll(first.examined);
        boolean passed = first.end >= 0;
        if (item.mode() == IncrementalPackrat.MODE_AND || item.mode() == IncrementalPackrat.MODE_NOT) {
            result.end = passed == (item.mode() == IncrementalPackrat.MODE_AND) ? q : -1;
            return result;
        }
        if (!passed) {
            boolean must = item.mode() == IncrementalPackrat.MODE_ONE || item.mode() == IncrementalPackrat.MODE_PLUS;
            result.end = must ? -1 : q;
            return result;
        }
        result.end = first.end;
        result.nodes.addAll(first.nodes);
        while (item.repeats()) {
            Result next = test(item, result.end);
            result.examined.addAll(next.examined);
            if (next.end < 0) {
                break;
            }
            result.end = next.end;
            result.nodes.addAll(next.nodes);
        }
        return result;
    }

    private Result alternative(List<Item> alt, int p) {
        Result result = new Result();
        result.end = p;
        for (Item item : alt) {
            Result part = item(item, result.end);
            result.examined.addAll(part.examined);
            result.end = part.end;
            if (part.end < 0) {
                break;
            }
            result.nodes.addAll(part.nodes);
        }
        return result;
    }

    /** M(r, p); its nodes are the one root, or none. */
    private Result evaluate(int r, int p) {
        Result before = known.get(r * 100 + p);
        if (before != null) {
            return before;
        }
        Result result = new Result();
        for (List<Item> alt : alternatives.get(r)) {
            Result part = alternative(alt, p);
            result.examined.addAll(part.examined);
            if (part.end >= 0) {
                result.end = part.end;
                result.nodes.add(new Node(r, p, part.end, part.nodes));
                break;
            }
        }
        known.put(r * 100 + p, result);
        return result;
    }

    /** Shared subtrees make the whole tree small in memory, but not its numbering: that ends at 65. */
    private void number(Node node, int parent) {
        if (tree.size() > 64) {
            return;
        }
        int own = tree.size();
        tree.add(new int[] {node.rule(), node.start(), node.end(), parent});
        for (Node child : node.children()) {
            number(child, own);
        }
    }

    int parse(int r, int p) {
        if (!frozen || r < 0 || r >= rules || p < 0 || p > text.length()) {
            return IncrementalPackrat.PARSE_REFUSED;
        }
        known.clear();
        Result result = evaluate(r, p);
        furthest = result.examined.isEmpty() ? -1 : result.examined.last();
        tree.clear();
        if (result.end < 0) {
            return IncrementalPackrat.PARSE_FAIL;
        }
        number(result.nodes.get(0), -1);
        return result.end;
    }

    /** The same words as Checks.stateOf. */
    String state() {
        StringBuilder s = new StringBuilder();
        s.append(frozen).append(' ').append(text.length()).append(' ').append(furthest);
        for (int i = -2; i <= 26; i++) {
            s.append(' ').append(i >= 0 && i < text.length() ? text.charAt(i) : -1);
        }
        s.append(" / ").append(tree.size());
        for (int i = -2; i <= 66; i++) {
            int[] node = i >= 0 && i < tree.size() && i < 64 ? tree.get(i) : new int[] {-1, -1, -1, -1};
            s.append(' ').append(node[0]).append(',').append(node[1]);
            s.append(',').append(node[2]).append(',').append(node[3]);
        }
        return s.toString();
    }

    String text() {
        return text.toString();
    }

    int rules() {
        return rules;
    }
}
