/** Promise 13: nodeCount. Promise 14: node accessors. */
public final class TreeTest {
    private static void tree(Checks c, String text, int p, String want, String... alts) {
        IncrementalPackrat x = Grammars.compiled(8, 24, alts);
        Checks.append(x, text);
        String call = "parse(0, " + p + ") of '" + text + "' by " + String.join(" / ", alts);
        x.parse(0, p);
        c.due(call + ": tree", Checks.treeOf(x), want);
        int count = x.nodeCount();
        int[] outside = {-1, count, count + 1, 64, 65, Integer.MIN_VALUE, Integer.MAX_VALUE};
        for (int i : outside) {
            if (i < 0 || i >= count || i >= IncrementalPackrat.MAX_NODES) {
                noNode(c, call, x, i);
            }
        }
    }

    private static void noNode(Checks c, String call, IncrementalPackrat x, int i) {
        c.due(call + ": nodeRule(" + i + ")", x.nodeRule(i), -1);
        c.due(call + ": nodeStart(" + i + ")", x.nodeStart(i), -1);
        c.due(call + ": nodeEnd(" + i + ")", x.nodeEnd(i), -1);
        c.due(call + ": nodeParent(" + i + ")", x.nodeParent(i), -1);
    }

    private static void shapes(Checks c) {
        tree(c, "a", 0, "1 0:0-1^-1", "0 = a");
        tree(c, "ba", 1, "1 0:1-2^-1", "0 = a");
        tree(c, "b", 0, "0", "0 = a");
        tree(c, "", 0, "1 0:0-0^-1", "0 =");
        tree(c, "b", 0, "0");
        tree(c, "ab", 0, "3 0:0-2^-1 1:0-1^0 2:1-2^0", "0 = #1 #2", "1 = a", "2 = b");
        // Failed tests of OPT, STAR and PLUS give no node.
        tree(c, "b", 0, "2 0:0-1^-1 2:0-1^0", "0 = #1? #2", "1 = a", "2 = b");
        tree(c, "ab", 0, "3 0:0-2^-1 1:0-1^0 2:1-2^0", "0 = #1? #2", "1 = a", "2 = b");
        tree(c, "b", 0, "2 0:0-1^-1 2:0-1^0", "0 = #1* #2", "1 = a", "2 = b");
        tree(c, "aab", 0, "4 0:0-3^-1 1:0-1^0 1:1-2^0 2:2-3^0", "0 = #1* #2", "1 = a", "2 = b");
        tree(c, "aab", 0, "4 0:0-3^-1 1:0-1^0 1:1-2^0 2:2-3^0", "0 = #1+ #2", "1 = a", "2 = b");
        // AND and NOT give none either, nor do chars.
        tree(c, "ab", 0, "2 0:0-1^-1 1:0-1^0", "0 = &#1 !#2 #1", "1 = a", "2 = b");
        tree(c, "xxay", 0, "2 0:0-4^-1 1:2-3^0", "0 = x* #1 y? !.", "1 = a");
        tree(c, "ab", 0, "2 0:0-2^-1 1:1-2^0", "0 = &. a #1", "1 = b");
        // A failed alternative leaves none of its nodes.
        tree(c, "ac", 0, "2 0:0-2^-1 2:0-2^0", "0 = #1 b", "0 = #2", "1 = a", "2 = a c");
        tree(c, "ac", 0, "1 0:0-2^-1", "0 = #1 b", "0 = a c", "1 = a");
        // A full alternative ends with its fourth item, whatever the next one holds.
        tree(c, "aaaa", 0, "5 0:0-4^-1 1:0-1^0 1:1-2^0 1:2-3^0 1:3-4^0", "0 = #1 #1 #1 #1", "2 = #3", "1 = a", "3 =");
        // An empty match is a node.
        tree(c, "x", 1, "3 0:1-1^-1 1:1-1^0 1:1-1^0", "0 = #1 #1", "1 =");
        tree(c, "x", 0, "2 0:0-1^-1 1:0-0^0", "0 = #1? x", "1 = y?");
    }

    private static void preorder(Checks c) {
        tree(c, "(()())", 0, "7 0:0-6^-1 0:1-5^0 0:2-2^1 0:3-5^1 0:4-4^3 0:5-5^3 0:6-6^0",
            "0 = ( #0 ) #0", "0 =");
        tree(c, "aba", 0, "7 0:0-3^-1 1:0-1^0 2:0-1^1 1:1-2^0 2:1-2^3 1:2-3^0 2:2-3^5",
            "0 = #1+", "1 = #2", "2 = a-b");
        tree(c, "abab", 0, "7 0:0-4^-1 1:0-2^0 2:0-1^1 3:1-2^1 1:2-4^0 2:2-3^4 3:3-4^4",
            "0 = #1*", "1 = #2 #3", "2 = a", "3 = b");
    }

    /** A chain of nodes with as many as wanted: rule 0 takes an a and calls itself. */
    private static void chain(Checks c) {
        IncrementalPackrat x = Grammars.compiled(3, 24, "0 = #1 #2? #0", "0 =", "1 = a", "2 = b");
        Checks.append(x, "aaaaaaaaaaaaaaaaaaaaaaaa");
        c.due("24 a: end", x.parse(0, 0), 24);
        c.due("24 a: count", x.nodeCount(), 49);
        c.due("24 a: last node's parent", x.nodeParent(48), 46);
        c.due("24 a: last node's start", x.nodeStart(48), 24);
    }

    /** Rule 1 gives 3 nodes for each a, rule 2 one for each b; K = 1 + 3a + b. */
    private static void aroundTheLimit(Checks c) {
        String[] alts = {"0 = #1* #2*", "1 = a #3 #3", "2 = b", "3 ="};
        String[] texts = {"aaaaaaaaaaaaaaaaaaaabb", "aaaaaaaaaaaaaaaaaaaaa", "aaaaaaaaaaaaaaaaaaaaab",
            "aaaaaaaaaaaaaaaaaaaaabb", "aaaaaaaaaaaaaaaaaaaaaaaa"};
        int[] counts = {63, 64, 65, 65, 65};
        for (int t = 0; t < texts.length; t++) {
            IncrementalPackrat x = Grammars.compiled(4, 24, alts);
            Checks.append(x, texts[t]);
            c.due(texts[t] + ": end", x.parse(0, 0), texts[t].length());
            c.due(texts[t] + ": furthest", x.furthest(), texts[t].length());
            c.due(texts[t] + ": count", x.nodeCount(), counts[t]);
            c.due(texts[t] + ": node 62's rule", x.nodeRule(62), counts[t] == 63 ? 2 : 3);
            c.due(texts[t] + ": node 63's rule", x.nodeRule(63), counts[t] == 63 ? -1 : 3);
            c.due(texts[t] + ": node 63's parent", x.nodeParent(63), counts[t] == 63 ? -1 : 61);
            noNode(c, texts[t], x, 64);
            noNode(c, texts[t], x, 65);
        }
    }

    /** 4^7 leaves and more at one position: only the first 64 nodes are stored. */
    private static void hugeTree(Checks c) {
        String[] alts = new String[8];
        for (int r = 0; r < 7; r++) {
            int s = r + 1;
            alts[r] = r + " = #" + s + " #" + s + " #" + s + " #" + s;
        }
        alts[7] = "7 = a?";
        IncrementalPackrat x = Grammars.compiled(8, 24, alts);
        Checks.append(x, "aaaaaaaaaaaaaaaaaaaaaaaa");
        c.due("huge: end", x.parse(0, 0), 24);
        c.due("huge: furthest", x.furthest(), 24);
        c.due("huge: count", x.nodeCount(), 65);
        for (int i = 0; i < 8; i++) {
            c.due("huge: rule of node " + i, x.nodeRule(i), i);
            c.due("huge: parent of node " + i, x.nodeParent(i), i - 1);
            c.due("huge: end of node " + i, x.nodeEnd(i), i < 5 ? 24 : i == 5 ? 16 : i == 6 ? 4 : 1);
        }
        for (int i = 1; i < 64; i++) {
            c.due("huge: smaller parent of node " + i, x.nodeParent(i) >= 0 && x.nodeParent(i) < i, true);
        }
        noNode(c, "huge", x, 64);
    }

    private static void whenTheTreeGoes(Checks c) {
        IncrementalPackrat x = Grammars.compiled(2, 8, "0 = #1 #1", "1 = a");
        c.due("at start", x.nodeCount(), 0);
        Checks.append(x, "aab");
        x.parse(0, 0);
        c.due("after a success", Checks.treeOf(x), "3 0:0-2^-1 1:0-1^0 1:1-2^0");
        String before = Checks.stateOf(x);
        x.nodeCount();
        x.nodeRule(0);
        x.nodeStart(1);
        x.nodeEnd(2);
        x.nodeParent(99);
        c.due("reading changes nothing", Checks.stateOf(x), before);
        x.parse(0, 9);
        x.deleteRange(9, 9);
        x.compile();
        c.due("refused calls keep the tree", Checks.stateOf(x), before);
        x.parse(0, 1);
        c.due("after a failure", x.nodeCount(), 0);
        noNode(c, "after a failure", x, 0);
        x.parse(1, 1);
        c.due("a smaller tree", Checks.treeOf(x), "1 1:1-2^-1");
        noNode(c, "a smaller tree", x, 1);
        x.replaceRange(2, 1, 'b');
        c.due("after a replace", x.nodeCount(), 0);
        noNode(c, "after a replace", x, 0);
        x.parse(0, 0);
        x.insertChar(3, 'c');
        c.due("after an insert", x.nodeCount(), 0);
        x.parse(0, 0);
        x.deleteRange(3, 1);
        c.due("after a delete", x.nodeCount(), 0);
    }

    public static void main(String[] args) {
        Checks c = new Checks("TreeTest");
        shapes(c);
        preorder(c);
        chain(c);
        aroundTheLimit(c);
        hugeTree(c);
        whenTheTreeGoes(c);
        c.end();
    }
}
