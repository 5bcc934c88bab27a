/** Promise 11: parse evaluates a rule at a position. Promise 12: furthest. */
public final class ParseTest {
    private static final int FAIL = IncrementalPackrat.PARSE_FAIL;
    private static final int REFUSED = IncrementalPackrat.PARSE_REFUSED;

    /** The end and F of rule 0 at p, in a grammar of its own. */
    private static void parses(Checks c, String text, int p, int end, int furthest, String... alts) {
        IncrementalPackrat x = Grammars.compiled(8, 24, alts);
        Checks.append(x, text);
        String call = "parse(0, " + p + ") of '" + text + "' by " + String.join(" / ", alts);
        c.due(call, x.parse(0, p), end);
        c.due(call + ": furthest", x.furthest(), furthest);
        c.due(call + ": nodes", x.nodeCount() > 0, end >= 0);
        c.due(call + ": text", Checks.textOf(x), text);
        c.due(call + ": isCompiled", x.isCompiled(), true);
    }

    private static void modesOfChars(Checks c) {
        parses(c, "ab", 0, 1, 0, "0 = a");
        parses(c, "ab", 1, FAIL, 1, "0 = a");
        parses(c, "ab", 2, FAIL, 2, "0 = a");
        parses(c, "ab", 0, 1, 0, "0 = a?");
        parses(c, "ab", 1, 1, 1, "0 = a?");
        parses(c, "", 0, 0, 0, "0 = a?");
        parses(c, "aaab", 0, 3, 3, "0 = a*");
        parses(c, "aaab", 3, 3, 3, "0 = a*");
        parses(c, "aaa", 1, 3, 3, "0 = a*");
        // As many tests as there can be: one for each char, and one at the text's end.
        parses(c, "aaa", 0, 3, 3, "0 = a*");
        parses(c, "aaaaaaaaaaaaaaaaaaaaaaaa", 0, 24, 24, "0 = a+");
        parses(c, "", 0, 0, 0, "0 = a*");
        parses(c, "", 0, FAIL, 0, "0 = a+");
        parses(c, "aaab", 0, 3, 3, "0 = a+");
        parses(c, "aaab", 3, FAIL, 3, "0 = a+");
        parses(c, "aaab", 2, 3, 3, "0 = a+");
        parses(c, "ab", 0, 0, 0, "0 = &a");
        parses(c, "ab", 1, FAIL, 1, "0 = &a");
        parses(c, "ab", 2, FAIL, 2, "0 = &a");
        parses(c, "ab", 0, FAIL, 0, "0 = !a");
        parses(c, "ab", 1, 1, 1, "0 = !a");
        parses(c, "ab", 2, 2, 2, "0 = !a");
        parses(c, "xyz", 0, 3, 3, "0 = .* !.");
        parses(c, "q5", 0, 2, 1, "0 = a-z 0-9");
    }

    private static void modesOfRules(Checks c) {
        String pair = "1 = a b";
        parses(c, "abab", 0, 2, 1, "0 = #1", pair);
        parses(c, "aa", 0, FAIL, 1, "0 = #1", pair);
        parses(c, "ac", 0, 0, 1, "0 = #1?", pair);
        parses(c, "abac", 0, 2, 3, "0 = #1*", pair);
        parses(c, "abab", 0, 4, 4, "0 = #1*", pair);
        parses(c, "ac", 0, 0, 1, "0 = #1*", pair);
        parses(c, "aaa", 0, 3, 3, "0 = #1*", "1 = a");
        parses(c, "", 0, 0, 0, "0 = #1*", "1 = a");
        parses(c, "aba", 0, 2, 3, "0 = #1+", pair);
        parses(c, "ac", 0, FAIL, 1, "0 = #1+", pair);
        parses(c, "abx", 0, 0, 1, "0 = &#1", pair);
        parses(c, "ax", 0, FAIL, 1, "0 = &#1", pair);
        parses(c, "abx", 0, FAIL, 1, "0 = !#1", pair);
        parses(c, "ax", 0, 0, 1, "0 = !#1", pair);
        parses(c, "abc", 0, 1, 2, "0 = &#1 a", "1 = a b c");
    }

    private static void alternatives(Checks c) {
        // The first that succeeds wins, though a later one would go further.
        parses(c, "ab", 0, 1, 0, "0 = a", "0 = a b");
        parses(c, "ab", 0, 2, 1, "0 = a b", "0 = a");
        parses(c, "ac", 0, 1, 1, "0 = a b", "0 = a");
        parses(c, "abcx", 0, 1, 3, "0 = a b c d", "0 = a");
        parses(c, "zz", 0, FAIL, 0, "0 = a", "0 = b");
        parses(c, "ab", 0, FAIL, 2, "0 = a b c", "0 = b");
        // Nothing is examined behind the first failing item, nor in alternatives not tried.
        parses(c, "abcd", 0, FAIL, 0, "0 = x &. . .");
        parses(c, "abcd", 0, 0, -1, "0 =", "0 = a b c d");
        parses(c, "abcd", 2, 2, -1, "0 =");
        parses(c, "abcd", 0, FAIL, -1);
        parses(c, "abcd", 0, FAIL, -1, "0 = #1 a");
        parses(c, "abcd", 0, 1, 0, "0 = #1", "0 = a");
        parses(c, "abcd", 4, 4, -1, "0 = !#1");
        // No second try with a shorter STAR.
        parses(c, "aaa", 0, FAIL, 3, "0 = a* a");
        parses(c, "abab", 0, FAIL, 4, "0 = #1* a", "1 = a b");
        // An inner choice is not taken back either.
        parses(c, "abc", 0, FAIL, 1, "0 = #1 c", "1 = a", "1 = a b");
    }

    private static void recursion(Checks c) {
        String[] nest = {"0 = ( #0 ) #0", "0 ="};
        parses(c, "(()())()", 0, 8, 8, nest);
        parses(c, "(()", 0, 0, 3, nest);
        parses(c, "((((((((((((", 0, 0, 12, nest);
        parses(c, "(((((((((((())))))))))))", 0, 24, 24, nest);
        parses(c, "xyxy", 0, 4, 4, "0 = x #1", "1 = y #0", "1 = y");
        parses(c, "xyx", 0, 2, 3, "0 = x #1", "1 = y #0", "1 = y");
        // a^n b^n c^n, which needs the AND.
        String[] abc = {"0 = &#3 a+ #2 !.", "1 = a #1? b", "2 = b #2? c", "3 = #1 c"};
        parses(c, "aaabbbccc", 0, 9, 9, abc);
        parses(c, "aabbbccc", 0, FAIL, 4, abc);
        parses(c, "aaabbbcc", 0, FAIL, 8, abc);
        // Depth over the rules at one position and over all positions.
        parses(c, "aaaaaaaaaaaaaaaaaaaaaaaa", 0, 24, 24, "0 = #1", "1 = #2", "2 = #3", "3 = #4", "4 = #5",
            "5 = #6", "6 = #7", "7 = a #0", "7 =");
        parses(c, "aaaaaaaaaaaaaaaaaaaaaaaa", 0, 24, 24, "0 = a #7", "0 =", "7 = #6", "6 = #5", "5 = #4",
            "4 = #3", "3 = #2", "2 = #1", "1 = #0");
        // Exponentially many ways, if nothing were kept.
        parses(c, "aaaaaaaaaaaaaaaaaaaaaaab", 0, FAIL, 24, "0 = #1 c", "1 = a #1 x", "1 = a #1 y", "1 = a #1", "1 = b");
    }

    private static void refusals(Checks c) {
        IncrementalPackrat x = Grammars.building(2, 8, "0 = a", "1 = #0 #0*");
        Checks.append(x, "aab");
        c.due("while building", x.parse(0, 0), REFUSED);
        x.compile();
        c.due("parse(1, 0)", x.parse(1, 0), 2);
        String before = Checks.stateOf(x);
        int low = Integer.MIN_VALUE;
        int high = Integer.MAX_VALUE;
        int[][] bad = {{-1, 0}, {2, 0}, {7, 0}, {0, -1}, {0, 4}, {1, 8}, {1, 24}, {low, 0}, {high, 0}, {0, low},
            {0, high}, {low, low}, {high, high}, {low, high}, {2, 4}, {-1, -1}};
        for (int[] row : bad) {
            String call = "parse(" + row[0] + ", " + row[1] + ")";
            c.due(call, x.parse(row[0], row[1]), REFUSED);
            c.due(call + " state", Checks.stateOf(x), before);
        }
        c.due("at the text's end", x.parse(0, 3), FAIL);
        before = Checks.stateOf(x);
        c.due("refused after a failure", x.parse(0, 4), REFUSED);
        c.due("state", Checks.stateOf(x), before);
    }

    private static void furthestFollowsTheLastParse(Checks c) {
        IncrementalPackrat x = Grammars.compiled(2, 8, "0 = a b", "1 =");
        c.due("at start", x.furthest(), -1);
        c.due("empty text", x.parse(0, 0), FAIL);
        c.due("after a parse of the empty text", x.furthest(), 0);
        x.insertChar(0, 'a');
        c.due("after an insert", x.furthest(), -1);
        x.parse(0, 0);
        c.due("after a failure", x.furthest(), 1);
        c.due("furthest changes nothing", x.furthest(), 1);
        x.parse(0, 2);
        c.due("after a refused parse", x.furthest(), 1);
        x.insertChar(9, 'b');
        c.due("after a refused insert", x.furthest(), 1);
        x.parse(1, 1);
        c.due("after a parse that examined nothing", x.furthest(), -1);
        x.parse(0, 1);
        x.replaceRange(0, 1, 'a');
        c.due("after a replace by the same char", x.furthest(), -1);
        x.parse(0, 0);
        x.deleteRange(0, 1);
        c.due("after a delete", x.furthest(), -1);
    }

    public static void main(String[] args) {
        Checks c = new Checks("ParseTest");
        modesOfChars(c);
        modesOfRules(c);
        alternatives(c);
        recursion(c);
        refusals(c);
        furthestFollowsTheLastParse(c);
        c.end();
    }
}
