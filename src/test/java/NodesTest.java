/** Promise 13: nodeCount. Promise 14: node accessors. */
public final class NodesTest {
    private static final String NO_NODE = "-1 -1 -1 -1";

    private final Checks c = new Checks("NodesTest");

    /** A tree of as many nodes as wanted, from 1 to 71: rule 1 gives three for each a, rule 2 one for each b. */
    private static IncrementalPackrat withNodes(int count) {
        IncrementalPackrat x = Grammars.compiled(4, 24, "0 = #1* #2*", "1 = a #3 #3", "2 = b", "3 =");
        Checks.append(x, "a".repeat((count - 1) / 3) + "b".repeat((count - 1) % 3));
        x.parse(0, 0);
        return x;
    }

    /** The same node of that tree, said without it. */
    private static String nodeOfSuch(int count, int i) {
        int threes = (count - 1) / 3;
        if (i == 0) {
            return "0 0 " + (threes + (count - 1) % 3) + " -1";
        }
        int at = (i - 1) / 3;
        if (at >= threes) {
            int b = threes + (i - 1 - 3 * threes);
            return "2 " + b + " " + (b + 1) + " 0";
        }
        if ((i - 1) % 3 == 0) {
            return "1 " + at + " " + (at + 1) + " 0";
        }
        return "3 " + (at + 1) + " " + (at + 1) + " " + (3 * at + 1);
    }

    private void counts() {
        c.sentence("nodeCount() answers K, the number of nodes of the stored tree, if K <= 64, and answers 65 if"
            + " K > 64.");
        for (int count = 1; count <= 71; count++) {
            c.due("K = " + count, withNodes(count).nodeCount(), count <= 64 ? count : 65);
        }
    }

    private void countsNothing() {
        c.sentence("K is 0 at start, after every successful edit, and after a parse answering PARSE_FAIL;");
        IncrementalPackrat x = Grammars.building(2, 8, "0 = #1 #1", "1 = a");
        c.due("at start", x.nodeCount(), 0);
        Checks.append(x, "aab");
        x.compile();
        c.due("before the first parse", x.nodeCount(), 0);
        x.parse(0, 0);
        c.due("after a success", x.nodeCount(), 3);
        c.due("a failing parse", x.parse(0, 1), IncrementalPackrat.PARSE_FAIL);
        c.due("after a failure", x.nodeCount(), 0);
        x.parse(0, 0);
        x.insertChar(3, 'c');
        c.due("after an insert", x.nodeCount(), 0);
        x.parse(0, 0);
        x.deleteRange(3, 1);
        c.due("after a delete", x.nodeCount(), 0);
        x.parse(0, 0);
        x.replaceRange(2, 1, 'b');
        c.due("after a replace by the same", x.nodeCount(), 0);
        IncrementalPackrat large = withNodes(71);
        large.parse(2, 0);
        c.due("after a failure behind a large tree", large.nodeCount(), 0);
        large.parse(0, 0);
        large.deleteRange(0, 1);
        c.due("after a delete behind a large tree", large.nodeCount(), 0);
    }

    private void countsAtLeastOne() {
        c.sentence("after a successful parse it is at least 1.");
        IncrementalPackrat x = Grammars.compiled(2, 8, "0 =", "1 = a");
        c.due("an empty success on the empty text", x.parse(0, 0), 0);
        c.due("its nodes", x.nodeCount(), 1);
        Checks.append(x, "a");
        c.due("an empty success at the text's end", x.parse(0, 1), 1);
        c.due("its nodes", x.nodeCount(), 1);
        c.due("a success of one char", x.parse(1, 0), 1);
        c.due("its nodes", x.nodeCount(), 1);
    }

    private void refusedCallsKeepTheCount() {
        c.sentence("Every refused call answers as stated and changes nothing.");
        for (int count : new int[] {1, 63, 64, 65, 71}) {
            IncrementalPackrat x = withNodes(count);
            String before = Checks.stateOf(x);
            x.parse(0, 25);
            x.parse(4, 0);
            x.insertChar(25, 'a');
            x.deleteRange(0, 25);
            x.replaceRange(0, 0, 'a');
            x.newAlt(0);
            x.addItem(2, 0, 0, 0);
            x.compile();
            c.due("K = " + count + " after refused calls", Checks.stateOf(x), before);
        }
    }

    private void countChangesNothing() {
        c.sentence("nodeCount() [..] changes nothing.");
        for (int count : new int[] {1, 64, 65, 71}) {
            Traces.none(c, "nodeCount()", () -> withNodes(count), x -> x.nodeCount(), count <= 64 ? count : 65);
        }
        Traces.none(c, "nodeCount() at start", () -> new IncrementalPackrat(1, 8), x -> x.nodeCount(), 0);
        Traces.none(c, "nodeCount() after a failure", () -> Scenes.make(Scenes.FAILED, "abca"), x -> x.nodeCount(), 0);
    }

    private void accessors() {
        c.sentence("nodeRule(i), nodeStart(i), nodeEnd(i) and nodeParent(i) answer, for node i with 0 <= i < K and"
            + " i < 64, that node's rule, start position, end position and parent number respectively.");
        for (int count : new int[] {1, 2, 3, 4, 62, 63, 64, 65, 66, 71}) {
            IncrementalPackrat x = withNodes(count);
            for (int i = 0; i < count && i < 64; i++) {
                c.due("node " + i + " of " + count, Checks.nodeOf(x, i), nodeOfSuch(count, i));
            }
        }
    }

    private void noNodes(String name, IncrementalPackrat x, int stored) {
        for (int i : Numbers.outside(0, stored - 1)) {
            c.due(name + ": node " + i, Checks.nodeOf(x, i), NO_NODE);
        }
        for (int i = stored; i < 80; i++) {
            c.due(name + ": node " + i, Checks.nodeOf(x, i), NO_NODE);
        }
    }

    private void otherNumbers() {
        c.sentence("For every other i (negative, i >= K, or i >= 64) each answers -1.");
        for (int count = 1; count <= 71; count++) {
            noNodes("K = " + count, withNodes(count), Math.min(count, 64));
        }
        noNodes("at start", new IncrementalPackrat(8, 24), 0);
        for (int scene : new int[] {Scenes.BUILDING, Scenes.FROZEN, Scenes.FAILED}) {
            noNodes(Scenes.name(scene), Scenes.make(scene, "abca"), 0);
        }
        IncrementalPackrat x = withNodes(71);
        x.parse(2, 0);
        noNodes("a failure behind a large tree", x, 0);
        x.parse(3, 0);
        noNodes("a small tree behind a large one", x, 1);
        x.parse(0, 0);
        x.replaceRange(0, 1, 'b');
        noNodes("an edit behind a large tree", x, 0);
    }

    private void root() {
        c.sentence("Node 0, when it exists, is the root (r, p, e) of the last successful parse, and nodeParent(0)"
            + " answers -1;");
        IncrementalPackrat x = Grammars.compiled(3, 8, "0 = #1 #2", "1 = a", "2 = b*");
        Checks.append(x, "abba");
        for (int r = 0; r < 3; r++) {
            for (int p = 0; p <= 4; p++) {
                int end = x.parse(r, p);
                String want = end == IncrementalPackrat.PARSE_FAIL ? NO_NODE : r + " " + p + " " + end + " -1";
                c.due("root of parse(" + r + ", " + p + ")", Checks.nodeOf(x, 0), want);
            }
        }
        x.parse(0, 0);
        x.parse(0, 5);
        c.due("root after a refused parse", Checks.nodeOf(x, 0), "0 0 3 -1");
    }

    private void smallerParents() {
        c.sentence("for i >= 1 the parent is a smaller node number.");
        for (int count = 2; count <= 71; count++) {
            IncrementalPackrat x = withNodes(count);
            for (int i = 1; i < count && i < 64; i++) {
                int parent = x.nodeParent(i);
                c.due("parent of node " + i + " of " + count, parent >= 0 && parent < i, true);
            }
        }
    }

    private void accessorsChangeNothing() {
        c.sentence("These calls change nothing.");
        int[] numbers = {Integer.MIN_VALUE, -1, 4, 64, Integer.MAX_VALUE};
        for (int i : numbers) {
            Traces.noneInAnyScene(c, "node " + i, "abca", x -> Checks.nodeOf(x, i), NO_NODE);
        }
        for (int i = 0; i < 64; i++) {
            int node = i;
            Traces.none(c, "node " + i + " of 65", () -> withNodes(65), x -> Checks.nodeOf(x, node), nodeOfSuch(65, i));
        }
    }

    public static void main(String[] args) {
        NodesTest t = new NodesTest();
        t.c.run(t::counts, t::countsNothing, t::countsAtLeastOne, t::refusedCallsKeepTheCount, t::countChangesNothing,
            t::accessors, t::otherNumbers, t::root, t::smallerParents, t::accessorsChangeNothing);
    }
}
