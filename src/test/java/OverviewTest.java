/** The section "What it is": what the object holds, and the constants by their use. */
public final class OverviewTest {
    private static final int FAIL = IncrementalPackrat.PARSE_FAIL;
    private static final int REFUSED = IncrementalPackrat.PARSE_REFUSED;

    private final Checks c = new Checks("OverviewTest");

    private void builtCompiledEvaluated() {
        c.sentence("The grammar is built by calls (newAlt, addItem), accepted or rejected by compile(), and then evaluated"
            + " on the current text by parse(r, p).");
        IncrementalPackrat x = new IncrementalPackrat(2, 8);
        c.due("newAlt(0)", x.newAlt(0), 0);
        c.due("an item of it", x.addItem(IncrementalPackrat.KIND_RULE, 1, 0, IncrementalPackrat.MODE_PLUS), 0);
        c.due("newAlt(1)", x.newAlt(1), 1);
        c.due("rejected while rule 1 is empty", x.compile(), IncrementalPackrat.COMPILE_BAD_REPEAT);
        c.due("an item of it", x.addItem(IncrementalPackrat.KIND_CHAR, 'a', 0, IncrementalPackrat.MODE_ONE), 0);
        Checks.append(x, "aab");
        c.due("parse before compile", x.parse(0, 0), REFUSED);
        c.due("accepted", x.compile(), IncrementalPackrat.COMPILE_OK);
        c.due("parse(0, 0)", x.parse(0, 0), 2);
        c.due("parse(1, 0)", x.parse(1, 0), 1);
        c.due("parse(0, 1)", x.parse(0, 1), 2);
        c.due("parse(0, 2)", x.parse(0, 2), FAIL);
    }

    private void outcome(IncrementalPackrat x, String text, int end, int furthest, String tree) {
        c.due("the text", Checks.textOf(x), text);
        c.due("parse(0, 0) of '" + text + "'", x.parse(0, 0), end);
        c.due("furthest of '" + text + "'", x.furthest(), furthest);
        c.due("tree of '" + text + "'", Checks.treeOf(x), tree);
    }

    /** Each edit alone, with a parse before and after it; also those that change what stands behind the end. */
    private void asItIsAtThatMoment() {
        c.sentence("Edits change the text; every parse answers exactly what the definitions below give for the text as it"
            + " is at that moment.");
        IncrementalPackrat x = Grammars.compiled(2, 8, "0 = #1* !#1", "1 = a b", "1 = a &c");
        outcome(x, "", 0, 0, "1 0:0-0^-1");
        x.insertChar(0, 'a');
        outcome(x, "a", 0, 1, "1 0:0-0^-1");
        x.insertChar(1, 'b');
        outcome(x, "ab", 2, 2, "2 0:0-2^-1 1:0-2^0");
        x.insertChar(2, 'a');
        outcome(x, "aba", 2, 3, "2 0:0-2^-1 1:0-2^0");
        x.insertChar(3, 'c');
        outcome(x, "abac", 3, 3, "3 0:0-3^-1 1:0-2^0 1:2-3^0");
        x.replaceRange(3, 1, 'b');
        outcome(x, "abab", 4, 4, "3 0:0-4^-1 1:0-2^0 1:2-4^0");
        x.deleteRange(0, 1);
        outcome(x, "bab", 0, 0, "1 0:0-0^-1");
        x.replaceRange(0, 2, 'a');
        outcome(x, "ab", 2, 2, "2 0:0-2^-1 1:0-2^0");
        x.deleteRange(1, 1);
        outcome(x, "a", 0, 1, "1 0:0-0^-1");
    }

    private void rulesAndCapacity() {
        c.sentence("R rules, numbered 0..R-1, and a capacity T;");
        for (int rules = 1; rules <= 8; rules++) {
            IncrementalPackrat x = new IncrementalPackrat(rules, 16 + rules);
            for (int r = 0; r < rules; r++) {
                c.due("rule " + r + " of " + rules, x.newAlt(r), r);
            }
            c.due("rule -1 of " + rules, x.newAlt(-1), -1);
            c.due("rule " + rules + " of " + rules, x.newAlt(rules), -1);
            for (int i = 0; i < 16 + rules; i++) {
                c.due("char " + i + " of " + (16 + rules), x.insertChar(i, 'a'), true);
            }
            c.due("one char more than " + (16 + rules), x.insertChar(0, 'a'), false);
        }
    }

    /** All 16 alternatives, two of each rule, the first ones with four items and the last ones with one. */
    private void alternatives() {
        c.sentence("up to 16 alternatives in total, each owned by one rule, each holding 0..4 items;");
        IncrementalPackrat x = new IncrementalPackrat(8, 24);
        for (int alt = 0; alt < 16; alt++) {
            int size = 4 - alt / 4;
            c.due("alternative " + alt, x.newAlt(alt % 8), alt);
            for (int i = 0; i < size; i++) {
                int answer = x.addItem(IncrementalPackrat.KIND_CHAR, 'a' + alt, 0, IncrementalPackrat.MODE_ONE);
                c.due("its item " + i, answer, i);
            }
        }
        c.due("alternative 16", x.newAlt(0), -1);
        x.compile();
        for (int alt = 0; alt < 16; alt++) {
            String text = String.valueOf((char) ('a' + alt)).repeat(5);
            Checks.append(x, text);
            for (int r = 0; r < 8; r++) {
                c.due("rule " + r + " of '" + text + "'", x.parse(r, 0), r == alt % 8 ? 4 - alt / 4 : FAIL);
            }
            x.deleteRange(0, 5);
        }
        IncrementalPackrat y = Grammars.compiled(2, 8, "1 = a b c d", "1 =");
        c.due("an alternative without items", y.parse(1, 0), 0);
        c.due("is not another rule's", y.parse(0, 0), FAIL);
    }

    private void phase() {
        c.sentence("a phase, BUILDING (at start) or FROZEN;");
        IncrementalPackrat x = new IncrementalPackrat(1, 8);
        c.due("isCompiled at start", x.isCompiled(), false);
        c.due("a building call at start", x.newAlt(0), 0);
        c.due("compile", x.compile(), IncrementalPackrat.COMPILE_OK);
        c.due("isCompiled after it", x.isCompiled(), true);
        c.due("a building call after it", x.newAlt(0), -1);
    }

    private void text() {
        c.sentence("the text, a sequence of n chars with 0 <= n <= T (empty at start);");
        IncrementalPackrat x = new IncrementalPackrat(1, 24);
        c.due("textLength at start", x.textLength(), 0);
        c.due("charAt(0) at start", x.charAt(0), -1);
        StringBuilder want = new StringBuilder();
        for (int i = 0; i < 30; i++) {
            char ch = (char) ('a' + i);
            c.due("char " + i, x.insertChar(x.textLength(), ch), i < 24);
            if (i < 24) {
                want.append(ch);
            }
            c.due("the text after it", Checks.textOf(x), want.toString());
        }
        c.due("delete of all", x.deleteRange(0, 24), true);
        c.due("textLength after it", x.textLength(), 0);
    }

    private void storedOutcome() {
        c.sentence("the stored outcome: the furthest position F (-1 at start) and a tree of K nodes (K = 0 at start).");
        IncrementalPackrat x = Grammars.building(2, 8, "0 = a #1 !.", "1 = b*");
        c.due("F at start", x.furthest(), -1);
        c.due("K at start", x.nodeCount(), 0);
        Checks.append(x, "abb");
        x.compile();
        c.due("F before the first parse", x.furthest(), -1);
        c.due("K before the first parse", x.nodeCount(), 0);
        c.due("parse(0, 0)", x.parse(0, 0), 3);
        for (int i = 0; i < 2; i++) {
            c.due("F is kept", x.furthest(), 3);
            c.due("the tree is kept", Checks.treeOf(x), "2 0:0-3^-1 1:1-3^0");
        }
    }

    private void orderedByCreation() {
        c.sentence("A rule's alternatives are ordered by creation.");
        c.parses("ab", 0, 1, 0, "0 = .", "0 = . .", "0 =");
        c.parses("ab", 0, 2, 1, "0 = . .", "0 = .", "0 =");
        c.parses("ab", 0, 0, -1, "0 =", "0 = .", "0 = . .");
        // Alternatives of other rules between them make no difference.
        c.parses("ab", 0, 2, 1, "1 = a", "0 = . .", "1 =", "0 = .", "1 = b", "0 =");
        c.parses("a", 0, 1, 1, "1 = a", "0 = . .", "1 =", "0 = .", "1 = b", "0 =");
        c.parses("", 0, 0, 0, "1 = a", "0 = . .", "1 =", "0 = .", "1 = b", "0 =");
    }

    private void current() {
        c.sentence("The current alternative is the one most recently created (over all rules).");
        IncrementalPackrat x = Grammars.building(3, 8, "2 = a", "0 = b", "1 = c");
        c.due("a refused newAlt", x.newAlt(3), -1);
        c.due("an item", x.addItem(IncrementalPackrat.KIND_CHAR, 'd', 0, IncrementalPackrat.MODE_ONE), 1);
        x.compile();
        Checks.append(x, "abcd");
        c.due("it is not rule 2's", x.parse(2, 0), 1);
        c.due("it is not rule 0's", x.parse(0, 1), 2);
        c.due("it is rule 1's", x.parse(1, 2), 4);
    }

    /** The end and F of a rule 0 that is this one item, told by its numbers; rule 1 is a b. */
    private void numbered(int kind, int a, int b, int mode, String text, int end, int furthest) {
        IncrementalPackrat x = new IncrementalPackrat(2, 8);
        x.newAlt(0);
        x.addItem(kind, a, b, mode);
        Grammars.add(x, "1 = a b");
        x.compile();
        Checks.append(x, text);
        String call = "parse of '" + text + "' by kind " + kind + ", mode " + mode;
        c.due(call, x.parse(0, 0), end);
        c.due(call + ": furthest", x.furthest(), furthest);
    }

    private void kinds() {
        c.sentence("Item kinds: KIND_CHAR = 0, KIND_RANGE = 1, KIND_ANY = 2, KIND_RULE = 3.");
        numbered(0, 'a', 'c', 0, "b", -1, 0);
        numbered(0, 'b', 'c', 0, "b", 1, 0);
        numbered(1, 'a', 'c', 0, "b", 1, 0);
        numbered(1, 'a', 'c', 0, "d", -1, 0);
        numbered(2, 'a', 'c', 0, "d", 1, 0);
        numbered(3, 1, 'c', 0, "ab", 2, 1);
        numbered(3, 1, 'c', 0, "ac", -1, 1);
    }

    private void modes() {
        c.sentence("Item modes: MODE_ONE = 0, MODE_OPT = 1, MODE_STAR = 2, MODE_PLUS = 3, MODE_AND = 4, MODE_NOT = 5.");
        int[] endsOfTwo = {1, 1, 2, 2, 0, -1};
        int[] furthestOfTwo = {0, 0, 2, 2, 0, 0};
        int[] endsOfNone = {-1, 0, 0, -1, -1, 0};
        for (int mode = 0; mode < 6; mode++) {
            numbered(0, 'a', 0, mode, "aa", endsOfTwo[mode], furthestOfTwo[mode]);
            numbered(0, 'a', 0, mode, "ba", endsOfNone[mode], 0);
        }
    }

    private void compileAnswers() {
        c.sentence("Compile answers: COMPILE_OK = 0, COMPILE_FROZEN = 1, COMPILE_BAD_REPEAT = 2, COMPILE_LEFT_RECURSION"
            + " = 3.");
        IncrementalPackrat x = Grammars.building(2, 8, "0 = #1", "1 = a");
        c.due("a good grammar", x.compile(), 0);
        c.due("a frozen one", x.compile(), 1);
        c.due("a bad repeat", Grammars.building(2, 8, "0 = #1+", "1 = a*").compile(), 2);
        c.due("a left recursion", Grammars.building(2, 8, "0 = #1", "1 = #0").compile(), 3);
    }

    private void parseAnswers() {
        c.sentence("Parse answers: PARSE_FAIL = -1, PARSE_REFUSED = -2.");
        IncrementalPackrat x = Grammars.compiled(1, 8, "0 = a");
        c.due("a failure", x.parse(0, 0), -1);
        c.due("a refused parse", x.parse(0, 1), -2);
    }

    private void limits() {
        c.sentence("Limits: MAX_ALTS = 16, MAX_ITEMS = 4, MAX_NODES = 64.");
        int alts = 0;
        IncrementalPackrat x = new IncrementalPackrat(1, 8);
        while (alts < 100 && x.newAlt(0) >= 0) {
            alts++;
        }
        c.due("MAX_ALTS", alts, 16);
        int items = 0;
        while (items < 100 && x.addItem(IncrementalPackrat.KIND_ANY, 0, 0, IncrementalPackrat.MODE_ONE) >= 0) {
            items++;
        }
        c.due("MAX_ITEMS", items, 4);
        IncrementalPackrat y = Grammars.compiled(4, 8, "0 = #1 #1 #1 #1", "1 = #2 #2 #2 #2", "2 = #3 #3 #3 #3", "3 =");
        c.due("a tree of 85 nodes", y.parse(0, 0), 0);
        int nodes = 0;
        while (nodes < 100 && y.nodeRule(nodes) >= 0) {
            nodes++;
        }
        c.due("MAX_NODES", nodes, 64);
    }

    public static void main(String[] args) {
        OverviewTest t = new OverviewTest();
        t.c.run(t::builtCompiledEvaluated, t::asItIsAtThatMoment, t::rulesAndCapacity, t::alternatives, t::phase, t::text,
            t::storedOutcome, t::orderedByCreation, t::current, t::kinds, t::modes, t::compileAnswers, t::parseAnswers,
            t::limits);
    }
}
