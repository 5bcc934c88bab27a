/** The section "Meaning of the grammar": the tree of a success. */
public final class TreeTest {
    private final Checks c = new Checks("TreeTest");

    private void tree(String text, int p, String want, String... alts) {
        IncrementalPackrat x = Grammars.compiled(8, 24, alts);
        Checks.append(x, text);
        x.parse(0, p);
        c.due("tree of parse(0, " + p + ") of '" + text + "' by " + String.join(" / ", alts), Checks.treeOf(x), want);
    }

    private void root() {
        c.sentence("Its root is the node (r, p, e).");
        tree("a", 0, "1 0:0-1^-1", "0 = a");
        tree("ba", 1, "1 0:1-2^-1", "0 = a");
        tree("", 0, "1 0:0-0^-1", "0 =");
        tree("ba", 2, "1 0:2-2^-1", "0 =");
        tree("aaaaaaaaaaaaaaaaaaaaaaaa", 0, "1 0:0-24^-1", "0 = a*");
        tree("aaaaaaaaaaaaaaaaaaaaaaaa", 24, "1 0:24-24^-1", "0 = a*");
        IncrementalPackrat x = Grammars.compiled(8, 24, "7 = #6", "6 = a");
        Checks.append(x, "xa");
        x.parse(7, 1);
        c.due("a root of the last rule", Checks.treeOf(x), "2 7:1-2^-1 6:1-2^0");
    }

    private void firstSucceedingAlternative() {
        c.sentence("Its children, in order, are the trees of the successful tests of those items of the FIRST succeeding"
            + " alternative of r at p");
        tree("ac", 0, "2 0:0-2^-1 2:0-2^0", "0 = #1 b", "0 = #2", "1 = a", "2 = a c");
        tree("ac", 0, "1 0:0-2^-1", "0 = #1 b", "0 = a c", "1 = a");
        tree("a", 0, "1 0:0-1^-1", "0 = a", "0 = #1", "1 = a");
        tree("a", 0, "2 0:0-1^-1 2:0-1^0", "0 = #1", "0 = #2", "0 = #3", "2 = a", "3 = a");
        tree("x", 0, "1 0:0-0^-1", "0 =", "0 = #1", "1 = x");
        // A full alternative ends with its fourth item, whatever the next one holds.
        tree("aaaa", 0, "5 0:0-4^-1 1:0-1^0 1:1-2^0 1:2-3^0 1:3-4^0", "0 = #1 #1 #1 #1", "2 = #3", "1 = a", "3 =");
    }

    private void modesThatGiveNodes() {
        c.sentence("whose base is KIND_RULE and whose mode is ONE, OPT, STAR or PLUS");
        tree("a", 0, "2 0:0-1^-1 1:0-1^0", "0 = #1", "1 = a");
        tree("a", 0, "2 0:0-1^-1 1:0-1^0", "0 = #1?", "1 = a");
        tree("aa", 0, "3 0:0-2^-1 1:0-1^0 1:1-2^0", "0 = #1*", "1 = a");
        tree("aa", 0, "3 0:0-2^-1 1:0-1^0 1:1-2^0", "0 = #1+", "1 = a");
        tree("aa", 0, "2 0:0-1^-1 1:0-1^0", "0 = #1?", "1 = a");
        // Chars give none.
        tree("xxay", 0, "2 0:0-4^-1 1:2-3^0", "0 = x* #1 y? !.", "1 = a");
        tree("abc", 0, "1 0:0-3^-1", "0 = a b+ . .?");
        // An empty match is a node.
        tree("x", 1, "3 0:1-1^-1 1:1-1^0 1:1-1^0", "0 = #1 #1", "1 =");
        tree("x", 0, "2 0:0-1^-1 1:0-0^0", "0 = #1? x", "1 = y?");
    }

    private void itemsAndTestsInOrder() {
        c.sentence("(items in order, and within an item its tests in order).");
        tree("ab", 0, "3 0:0-2^-1 1:0-1^0 2:1-2^0", "0 = #1 #2", "1 = a", "2 = b");
        tree("aab", 0, "4 0:0-3^-1 1:0-1^0 1:1-2^0 2:2-3^0", "0 = #1* #2", "1 = a", "2 = b");
        tree("aabb", 0, "5 0:0-4^-1 1:0-1^0 1:1-2^0 2:2-3^0 2:3-4^0", "0 = #1+ #2+", "1 = a", "2 = b");
        tree("abcd", 0, "5 0:0-4^-1 4:0-1^0 3:1-2^0 2:2-3^0 1:3-4^0", "0 = #4 #3 #2 #1", "1 = d", "2 = c", "3 = b",
            "4 = a");
    }

    private void noNodes() {
        c.sentence("Failed tests and tests of AND/NOT items give no node.");
        tree("b", 0, "2 0:0-1^-1 2:0-1^0", "0 = #1? #2", "1 = a", "2 = b");
        tree("b", 0, "2 0:0-1^-1 2:0-1^0", "0 = #1* #2", "1 = a", "2 = b");
        tree("ab", 0, "3 0:0-2^-1 1:0-1^0 2:1-2^0", "0 = #1+ #2", "1 = a", "2 = b");
        tree("ab", 0, "2 0:0-1^-1 1:0-1^0", "0 = &#1 !#2 #1", "1 = a", "2 = b");
        tree("ab", 0, "1 0:0-0^-1", "0 = &#1", "1 = a");
        tree("ab", 0, "1 0:0-0^-1", "0 = !#1", "1 = b");
        // A test that failed late leaves nothing of what had succeeded in it.
        tree("ab", 0, "1 0:0-0^-1", "0 = #1?", "1 = #2 #2", "2 = a");
        tree("aba", 0, "3 0:0-2^-1 1:0-2^0 2:0-1^1", "0 = #1*", "1 = #2 b", "2 = a");
        tree("b", 0, "0", "0 = a");
        tree("b", 0, "0", "0 = #1? a", "1 = b");
    }

    private void preorder() {
        c.sentence("Nodes are numbered 0, 1, ... in preorder (a node, then its children's subtrees in order).");
        tree("(()())", 0, "7 0:0-6^-1 0:1-5^0 0:2-2^1 0:3-5^1 0:4-4^3 0:5-5^3 0:6-6^0", "0 = ( #0 ) #0", "0 =");
        tree("aba", 0, "7 0:0-3^-1 1:0-1^0 2:0-1^1 1:1-2^0 2:1-2^3 1:2-3^0 2:2-3^5", "0 = #1+", "1 = #2", "2 = a-b");
        tree("abab", 0, "7 0:0-4^-1 1:0-2^0 2:0-1^1 3:1-2^1 1:2-4^0 2:2-3^4 3:3-4^4", "0 = #1*", "1 = #2 #3", "2 = a",
            "3 = b");
    }

    private void parents() {
        c.sentence("A node's parent is the number of the node whose child it is (-1 for node 0).");
        tree("", 0, "8 0:0-0^-1 1:0-0^0 2:0-0^1 3:0-0^2 4:0-0^3 5:0-0^4 6:0-0^5 7:0-0^6", "0 = #1", "1 = #2", "2 = #3",
            "3 = #4", "4 = #5", "5 = #6", "6 = #7", "7 =");
        tree("a", 0, "5 0:0-1^-1 1:0-1^0 2:0-1^1 2:1-1^0 2:1-1^0", "0 = #1 #2 #2", "1 = #2", "2 = a?");
        // Two nodes of the same rule and place are told apart by their parents.
        tree("", 0, "5 0:0-0^-1 1:0-0^0 2:0-0^1 1:0-0^0 2:0-0^3", "0 = #1 #1", "1 = #2", "2 =");
        IncrementalPackrat x = Grammars.compiled(3, 24, "0 = #1 #2? #0", "0 =", "1 = a", "2 = b");
        Checks.append(x, "aaaaaaaaaaaaaaaaaaaaaaaa");
        x.parse(0, 0);
        c.due("a chain's count", x.nodeCount(), 49);
        for (int i = 0; i < 24; i++) {
            int own = 2 * i;
            c.due("chain node " + own, Checks.nodeOf(x, own), "0 " + i + " 24 " + (i == 0 ? -1 : own - 2));
            c.due("chain node " + (own + 1), Checks.nodeOf(x, own + 1), "1 " + i + " " + (i + 1) + " " + own);
        }
        c.due("the chain's last node", Checks.nodeOf(x, 48), "0 24 24 46");
    }

    /** 4^7 leaves at one position: rule 7 takes an a while there is one. */
    private void onlySixtyFourAreStored() {
        c.sentence("Only nodes 0..63 are stored.");
        String[] alts = new String[8];
        for (int r = 0; r < 7; r++) {
            int s = r + 1;
            alts[r] = r + " = #" + s + " #" + s + " #" + s + " #" + s;
        }
        alts[7] = "7 = a?";
        IncrementalPackrat x = Grammars.compiled(8, 24, alts);
        Checks.append(x, "aaaaaaaaaaaaaaaaaaaaaaaa");
        c.due("huge: end", x.parse(0, 0), 24);
        c.due("huge: furthest", x.furthest(), 24);
        c.due("huge: count", x.nodeCount(), 65);
        int[] ends = {24, 24, 24, 24, 24, 16, 4, 1};
        for (int i = 0; i < 8; i++) {
            c.due("huge: node " + i, Checks.nodeOf(x, i), i + " 0 " + ends[i] + " " + (i - 1));
        }
        c.due("huge: node 63 is there", x.nodeRule(63) >= 0, true);
        c.due("huge: node 64 is not", Checks.nodeOf(x, 64), "-1 -1 -1 -1");
        x.deleteRange(0, 24);
        x.parse(5, 0);
        c.due("a small tree after the huge one", x.nodeCount(), 21);
        c.due("its last node", Checks.nodeOf(x, 20), "7 0 0 16");
        c.due("behind its last node", Checks.nodeOf(x, 21), "-1 -1 -1 -1");
    }

    public static void main(String[] args) {
        TreeTest t = new TreeTest();
        t.c.run(t::root, t::firstSucceedingAlternative, t::modesThatGiveNodes, t::itemsAndTestsInOrder, t::noNodes,
            t::preorder, t::parents, t::onlySixtyFourAreStored);
    }
}
