import java.util.function.Supplier;

/** Promise 11: parse evaluates a rule at a position. */
public final class ParseTest {
    private static final int FAIL = IncrementalPackrat.PARSE_FAIL;
    private static final int REFUSED = IncrementalPackrat.PARSE_REFUSED;

    private final Checks c = new Checks("ParseTest");

    private void refused(int r, int p, String text) {
        Traces.noneInAnyScene(c, "parse(" + r + ", " + p + ") of '" + text + "'", text, x -> x.parse(r, p), REFUSED);
    }

    private void onTheCurrentText() {
        c.sentence("parse(r, p) evaluates M(r, p) on the current text.");
        IncrementalPackrat x = Grammars.compiled(1, 8, "0 = a b*");
        c.due("the empty text", x.parse(0, 0), FAIL);
        x.insertChar(0, 'a');
        c.due("'a'", x.parse(0, 0), 1);
        x.insertChar(1, 'b');
        c.due("'ab'", x.parse(0, 0), 2);
        x.insertChar(2, 'b');
        c.due("'abb'", x.parse(0, 0), 3);
        x.replaceRange(1, 1, 'c');
        c.due("'acb'", x.parse(0, 0), 1);
        x.deleteRange(1, 1);
        c.due("'ab' again", x.parse(0, 0), 2);
        x.replaceRange(0, 2, 'b');
        c.due("'b'", x.parse(0, 0), FAIL);
        x.deleteRange(0, 1);
        c.due("the empty text again", x.parse(0, 0), FAIL);
    }

    private void refusedWhileBuilding() {
        c.sentence("It is refused, answering PARSE_REFUSED, if the phase is BUILDING");
        for (int r = 0; r < Scenes.RULES; r++) {
            for (int p = 0; p <= 4; p++) {
                int rule = r;
                int at = p;
                Traces.none(c, "parse(" + r + ", " + p + ") while building", () -> Scenes.make(Scenes.BUILDING, "abca"),
                    x -> x.parse(rule, at), REFUSED);
            }
        }
        Supplier<IncrementalPackrat> start = () -> new IncrementalPackrat(1, 8);
        Traces.none(c, "parse(0, 0) at start", start, x -> x.parse(0, 0), REFUSED);
        Supplier<IncrementalPackrat> rejected = () -> {
            IncrementalPackrat x = Grammars.building(2, 8, "0 = #1*", "1 =");
            x.compile();
            return x;
        };
        Traces.none(c, "parse(1, 0) after a rejection", rejected, x -> x.parse(1, 0), REFUSED);
    }

    private void refusedOutsideTheRules() {
        c.sentence("It is refused, answering PARSE_REFUSED, if r < 0, r >= R");
        for (int r : Numbers.outside(0, Scenes.RULES - 1)) {
            refused(r, 0, "abca");
            refused(r, 4, "abca");
            refused(r, 0, "");
        }
        for (int rules = 1; rules <= 8; rules++) {
            IncrementalPackrat x = Grammars.compiled(rules, 8);
            c.due("parse(-1, 0) of " + rules + " rules", x.parse(-1, 0), REFUSED);
            c.due("parse(0, 0) of " + rules + " rules", x.parse(0, 0), FAIL);
            c.due("the last of " + rules + " rules", x.parse(rules - 1, 0), FAIL);
            c.due("behind the last of " + rules + " rules", x.parse(rules, 0), REFUSED);
        }
    }

    private void refusedBeforeTheText() {
        c.sentence("It is refused, answering PARSE_REFUSED, if p < 0");
        for (int p : Numbers.below(0)) {
            refused(0, p, "abca");
            refused(Scenes.RULES - 1, p, "abca");
            refused(3, p, "");
        }
    }

    private void refusedBehindTheText() {
        c.sentence("It is refused, answering PARSE_REFUSED, if p > n;");
        for (int p : Numbers.above(4)) {
            refused(0, p, "abca");
            refused(3, p, "abca");
        }
        for (int p : Numbers.above(0)) {
            refused(3, p, "");
        }
        // Within the capacity, and behind a text that was longer before.
        refused(3, Scenes.CAPACITY, "abca");
        for (int n = 0; n <= 24; n++) {
            IncrementalPackrat x = Grammars.compiled(1, 24, "0 = a*");
            Checks.append(x, "a".repeat(24));
            if (n < 24) {
                x.deleteRange(n, 24 - n);
            }
            c.due("at the end of " + n + " chars", x.parse(0, n), n);
            c.due("behind the end of " + n + " chars", x.parse(0, n + 1), REFUSED);
            c.due("from the start of " + n + " chars", x.parse(0, 0), n);
        }
    }

    private void refusalKeepsTheOutcome() {
        c.sentence("then nothing changes (F and K keep their values).");
        IncrementalPackrat x = Scenes.make(Scenes.FROZEN, "abca");
        int[][] bad = {{-1, 0}, {Scenes.RULES, 0}, {0, -1}, {0, 5}, {Integer.MAX_VALUE, Integer.MAX_VALUE},
            {Integer.MIN_VALUE, Integer.MIN_VALUE}};
        c.due("a success", x.parse(0, 0), 4);
        for (int[] row : bad) {
            c.due("a refused parse", x.parse(row[0], row[1]), REFUSED);
            c.due("F after it", x.furthest(), 3);
            c.due("K after it", x.nodeCount(), 4);
            c.due("the tree after it", Checks.treeOf(x), "4 0:0-4^-1 1:0-1^0 2:1-3^0 3:3-4^0");
        }
        c.due("a failure", x.parse(2, 3), FAIL);
        for (int[] row : bad) {
            c.due("a refused parse", x.parse(row[0], row[1]), REFUSED);
            c.due("F after it", x.furthest(), 3);
            c.due("K after it", x.nodeCount(), 0);
        }
    }

    private void greatestPosition() {
        c.sentence("F becomes the greatest position in the examined set of M(r, p), or -1 if that set is empty.");
        c.parses("abcd", 0, 1, 0, "0 = a");
        c.parses("abcd", 0, 4, 3, "0 = a b c d");
        c.parses("abcd", 3, 4, 3, "0 = d");
        // The furthest position is not the one examined last.
        c.parses("abcd", 0, 1, 3, "0 = a b c x", "0 = a");
        // What other rules examine, or this rule at other positions, is not counted.
        c.parses("abcd", 0, 1, 0, "0 = a", "1 = . . . .");
        c.parses("abcd", 1, FAIL, 1, "0 = a b c d");
        c.parses("abcd", 0, FAIL, -1);
        c.parses("abcd", 4, FAIL, -1);
        IncrementalPackrat x = Grammars.compiled(2, 8, "0 = .*", "1 =");
        Checks.append(x, "abcd");
        x.parse(0, 0);
        c.due("F of the whole text", x.furthest(), 4);
        x.parse(1, 0);
        c.due("F becomes smaller again", x.furthest(), -1);
    }

    private void failedAlternatives() {
        c.sentence("Positions examined by failed alternatives [..] all count;");
        c.parses("abcx", 0, 1, 3, "0 = a b c d", "0 = a");
        c.parses("abcx", 0, 0, 3, "0 = a b c d", "0 =");
        c.parses("abcx", 0, FAIL, 3, "0 = a b c d", "0 = b");
        c.parses("abcx", 0, 1, 3, "0 = #1", "1 = a b c d", "1 = a");
    }

    private void predicates() {
        c.sentence("Positions examined [..] by predicates (AND/NOT) [..] all count;");
        c.parses("abcd", 0, 0, 0, "0 = &a");
        c.parses("abcd", 0, 0, 0, "0 = !b");
        c.parses("abcd", 0, FAIL, 0, "0 = &b");
        c.parses("abcd", 0, FAIL, 0, "0 = !a");
        c.parses("abcd", 0, 1, 3, "0 = &#1 a", "1 = a b c d");
        c.parses("abcd", 0, 1, 3, "0 = !#1 a", "1 = a b c x");
        c.parses("abcd", 0, FAIL, 3, "0 = &#1 a", "1 = a b c x");
        c.parses("abcd", 0, FAIL, 3, "0 = !#1 a", "1 = a b c d");
    }

    private void failingFinalTests() {
        c.sentence("Positions examined [..] by failing final tests of STAR, PLUS and OPT items [..] all count;");
        c.parses("aab", 0, 2, 2, "0 = a*");
        c.parses("aab", 0, 2, 2, "0 = a+");
        c.parses("aab", 2, 2, 2, "0 = a?");
        c.parses("aab", 2, 2, 2, "0 = a*");
        c.parses("aab", 2, FAIL, 2, "0 = a+");
        c.parses("abcabx", 0, 3, 5, "0 = #1*", "1 = a b c");
        c.parses("abaax", 0, 2, 3, "0 = #1*", "1 = a b");
        c.parses("abaax", 0, 2, 3, "0 = #1+", "1 = a b");
        c.parses("abax", 0, 0, 3, "0 = #1?", "1 = a b a b");
    }

    private void atTheTextsEnd() {
        c.sentence("Positions examined [..] by tests at position n all count; F may therefore equal n,");
        String[] items = {"a", "a-b", ".", "a?", "a*", "a+", "&a", "!a", ".?", ".*", ".+", "&.", "!."};
        for (String item : items) {
            IncrementalPackrat x = Grammars.compiled(1, 24, "0 = " + item);
            for (int n = 0; n <= 24; n++) {
                x.parse(0, n);
                c.due("F of " + item + " at the end of " + n + " chars", x.furthest(), n);
                x.insertChar(0, 'a');
            }
        }
        c.parses("", 0, 0, 0, "0 = !.");
        c.parses("aa", 0, 2, 2, "0 = a a !.");
        c.parses("aa", 0, FAIL, 2, "0 = a a a");
    }

    private void nothingExamined() {
        c.sentence("and F may be -1 even on success (for example when the first alternative is empty).");
        c.parses("abcd", 0, 0, -1, "0 =", "0 = a b");
        c.parses("abcd", 4, 4, -1, "0 =");
        c.parses("", 0, 0, -1, "0 =");
        c.parses("abcd", 1, 1, -1, "0 = #1 #1", "1 =");
        c.parses("abcd", 1, 1, -1, "0 = !#1 #2?");
    }

    private void success() {
        c.sentence("On success the stored tree becomes the tree of M(r, p), K becomes its node count, and the answer is"
            + " its end e (p <= e <= n).");
        IncrementalPackrat x = Grammars.compiled(3, 8, "0 = #1* #2?", "1 = a", "2 = b");
        Checks.append(x, "aab");
        c.due("parse(0, 0)", x.parse(0, 0), 3);
        c.due("its tree", Checks.treeOf(x), "4 0:0-3^-1 1:0-1^0 1:1-2^0 2:2-3^0");
        c.due("e = p", x.parse(0, 3), 3);
        c.due("its tree", Checks.treeOf(x), "1 0:3-3^-1");
        c.due("e = n", x.parse(2, 2), 3);
        c.due("its tree", Checks.treeOf(x), "1 2:2-3^-1");
        c.due("a larger tree again", x.parse(0, 1), 3);
        c.due("its tree", Checks.treeOf(x), "3 0:1-3^-1 1:1-2^0 2:2-3^0");
        IncrementalPackrat y = Grammars.compiled(1, 8, "0 = a?");
        c.due("p = e = n = 0", y.parse(0, 0), 0);
        c.due("its tree", Checks.treeOf(y), "1 0:0-0^-1");
    }

    private void failure() {
        c.sentence("On failure K becomes 0 and the answer is PARSE_FAIL.");
        IncrementalPackrat x = Scenes.make(Scenes.SUCCEEDED, "abca");
        c.due("K before", x.nodeCount(), 4);
        c.due("a failing parse", x.parse(2, 0), FAIL);
        c.due("K after", x.nodeCount(), 0);
        c.due("node 0 after", Checks.nodeOf(x, 0), "-1 -1 -1 -1");
        c.due("F after", x.furthest(), 0);
        x.parse(0, 0);
        c.due("a failing parse at the text's end", x.parse(1, 4), FAIL);
        c.due("K after", x.nodeCount(), 0);
        c.due("F after", x.furthest(), 4);
    }

    private void changesNothingElse() {
        c.sentence("The grammar, the phase and the text are not changed.");
        IncrementalPackrat x = Scenes.make(Scenes.FROZEN, "abca");
        for (int r = 0; r < Scenes.RULES; r++) {
            for (int p = 0; p <= 4; p++) {
                x.parse(r, p);
                c.due("text after a parse", Checks.textOf(x), "abca");
                c.due("isCompiled after a parse", x.isCompiled(), true);
                c.due("compile after a parse", x.compile(), IncrementalPackrat.COMPILE_FROZEN);
                c.due("the grammar after a parse", x.parse(0, 0), 4);
                c.due("its tree", Checks.treeOf(x), "4 0:0-4^-1 1:0-1^0 2:1-3^0 3:3-4^0");
            }
        }
    }

    public static void main(String[] args) {
        ParseTest t = new ParseTest();
        t.c.run(t::onTheCurrentText, t::refusedWhileBuilding, t::refusedOutsideTheRules, t::refusedBeforeTheText,
            t::refusedBehindTheText, t::refusalKeepsTheOutcome, t::greatestPosition, t::failedAlternatives,
            t::predicates, t::failingFinalTests, t::atTheTextsEnd, t::nothingExamined, t::success, t::failure,
            t::changesNothingElse);
    }
}
