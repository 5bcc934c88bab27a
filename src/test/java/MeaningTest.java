import java.util.function.Function;

/** The section "Meaning of the grammar": items, modes, alternatives, M(r, p), and the general rules. */
public final class MeaningTest {
    private static final int FAIL = IncrementalPackrat.PARSE_FAIL;
    private static final String LONGEST = "aaaaaaaaaaaaaaaaaaaaaaaa";
    private static final String[] CHAR_BASES = {"a", "a-b", "."};

    private final Checks c = new Checks("MeaningTest");

    private void matches(int kind, int a, int b, String want) {
        c.due("kind " + kind + " of " + a + ", " + b, Grammars.matched(kind, a, b), want);
    }

    private void charBase() {
        c.sentence("KIND_CHAR c: one char equal to c;");
        matches(IncrementalPackrat.KIND_CHAR, 97, 0, "nnynnnnn");
        matches(IncrementalPackrat.KIND_CHAR, 0, 0, "ynnnnnnn");
        matches(IncrementalPackrat.KIND_CHAR, 65535, 0, "nnnnnnyn");
    }

    private void rangeBase() {
        c.sentence("KIND_RANGE lo, hi: one char ch with lo <= ch <= hi;");
        matches(IncrementalPackrat.KIND_RANGE, 97, 98, "nnyynnnn");
        matches(IncrementalPackrat.KIND_RANGE, 98, 98, "nnnynnnn");
        matches(IncrementalPackrat.KIND_RANGE, 0, 0, "ynnnnnnn");
        matches(IncrementalPackrat.KIND_RANGE, 0, 96, "yynnnnnn");
        matches(IncrementalPackrat.KIND_RANGE, 0, 65535, "yyyyyyyn");
        matches(IncrementalPackrat.KIND_RANGE, 98, 65534, "nnnyyynn");
        matches(IncrementalPackrat.KIND_RANGE, 65535, 65535, "nnnnnnyn");
    }

    private void anyBase() {
        c.sentence("KIND_ANY: any one char;");
        matches(IncrementalPackrat.KIND_ANY, 0, 0, "yyyyyyyn");
    }

    private void ruleBase() {
        c.sentence("KIND_RULE s: an invocation of rule s.");
        matches(IncrementalPackrat.KIND_RULE, 1, 0, "nnnnnnnn");
        c.parses("xy", 0, 2, 1, "0 = #7", "7 = x y");
    }

    private void testsOfChars() {
        c.sentence("A *test* of a char base [..] at position q examines position q (q may equal n) and succeeds iff q < n"
            + " and text[q] matches; on success it ends at q+1.");
        for (String base : CHAR_BASES) {
            for (int p = 0; p < 3; p++) {
                c.parses("aaa", p, p + 1, p, "0 = " + base);
            }
            c.parses("aaa", 3, FAIL, 3, "0 = " + base);
            c.parses("", 0, FAIL, 0, "0 = " + base);
            c.parses(LONGEST, 23, 24, 23, "0 = " + base);
            c.parses(LONGEST, 24, FAIL, 24, "0 = " + base);
        }
        c.parses("axa", 1, FAIL, 1, "0 = a");
        c.parses("axa", 1, FAIL, 1, "0 = a-b");
        // What stood behind the text's end before a delete is not there any more.
        IncrementalPackrat x = Grammars.compiled(1, 8, "0 = a a");
        Checks.append(x, "aaa");
        x.deleteRange(1, 2);
        c.due("parse behind a shorter text", x.parse(0, 0), FAIL);
        c.due("its furthest", x.furthest(), 1);
    }

    private void testsOfRules() {
        c.sentence("A test of a KIND_RULE s base at q is M(s, q): its result and its examined set.");
        // Rule 1 succeeds where it examined more than it took, and fails where it examined more than one char.
        c.parses("abc", 0, 1, 2, "0 = #1", "1 = a &#2", "2 = b c");
        c.parses("abx", 0, FAIL, 2, "0 = #1", "1 = a &#2", "2 = b c");
        c.parses("ab", 0, FAIL, 2, "0 = #1", "1 = a &#2", "2 = b c");
        c.parses("ab", 2, 2, -1, "0 = #1", "1 =");
        c.parses("ab", 2, FAIL, -1, "0 = #1");
    }

    private void eachTestWhereTheLastEnded() {
        c.sentence("(each test after the first starts where the previous successful test ended)");
        c.parses("abcabc", 0, 6, 6, "0 = #1*", "1 = a b c");
        c.parses("aabab", 0, 5, 5, "0 = #1+", "1 = a b", "1 = a");
        // Tests of one, two, three and four chars, and one that fails at once.
        c.parses("abaabaaabx", 0, 9, 9, "0 = #1*", "1 = a a a b", "1 = a a b", "1 = a b");
        c.parses("abcd", 1, 4, 4, "0 = b-d*");
    }

    private void one() {
        c.sentence("ONE: one test; the item succeeds iff the test does, ending where the test ended.");
        c.parses("aa", 0, 1, 0, "0 = a");
        c.parses("ba", 0, FAIL, 0, "0 = a");
        c.parses("", 0, FAIL, 0, "0 = a");
        c.parses("abab", 0, 2, 1, "0 = #1", "1 = a b");
        c.parses("aab", 0, FAIL, 1, "0 = #1", "1 = a b");
        c.parses("a", 0, FAIL, 1, "0 = #1", "1 = a b");
        c.parses("x", 1, 1, 1, "0 = #1", "1 = a?");
    }

    private void opt() {
        c.sentence("OPT: one test; on its success the item ends where the test ended; on its failure the item succeeds"
            + " ending at q.");
        c.parses("aa", 0, 1, 0, "0 = a?");
        c.parses("ba", 0, 0, 0, "0 = a?");
        c.parses("", 0, 0, 0, "0 = a?");
        c.parses("aa", 2, 2, 2, "0 = a?");
        c.parses("abab", 0, 2, 1, "0 = #1?", "1 = a b");
        // The test that fails has gone on to 1, but the item ends at 0.
        c.parses("aa", 0, 0, 1, "0 = #1?", "1 = a b");
        c.parses("ab", 1, 1, -1, "0 = #1?");
    }

    private void star() {
        c.sentence("STAR: tests repeated until one fails; the item succeeds, ending at the end of the last successful"
            + " test (q if none).");
        c.parses("aaab", 0, 3, 3, "0 = a*");
        c.parses("aaab", 3, 3, 3, "0 = a*");
        c.parses("aaa", 1, 3, 3, "0 = a*");
        c.parses("", 0, 0, 0, "0 = a*");
        c.parses(LONGEST, 0, 24, 24, "0 = a*");
        c.parses(LONGEST, 23, 24, 24, "0 = a*");
        c.parses(LONGEST, 24, 24, 24, "0 = a*");
        c.parses(LONGEST, 0, 24, 24, "0 = #1*", "1 = a");
        c.parses(LONGEST, 0, 24, 24, "0 = #1*", "1 = a a a a");
        c.parses(LONGEST, 1, 21, 24, "0 = #1*", "1 = a a a a");
        c.parses("abac", 0, 2, 3, "0 = #1*", "1 = a b");
        c.parses("ac", 0, 0, 1, "0 = #1*", "1 = a b");
        c.parses("ac", 2, 2, 2, "0 = #1*", "1 = a b");
        // The whole rest is taken, though the next item then fails.
        c.parses("aaa", 0, FAIL, 3, "0 = a* a");
        c.parses("abab", 0, FAIL, 4, "0 = #1* a", "1 = a b");
    }

    private void plus() {
        c.sentence("PLUS: as STAR, but the item fails if the first test fails.");
        c.parses("aaab", 0, 3, 3, "0 = a+");
        c.parses("aaab", 2, 3, 3, "0 = a+");
        c.parses("aaab", 3, FAIL, 3, "0 = a+");
        c.parses("", 0, FAIL, 0, "0 = a+");
        c.parses(LONGEST, 0, 24, 24, "0 = a+");
        c.parses(LONGEST, 23, 24, 24, "0 = a+");
        c.parses(LONGEST, 24, FAIL, 24, "0 = a+");
        c.parses(LONGEST, 0, 24, 24, "0 = #1+", "1 = a");
        c.parses("aba", 0, 2, 3, "0 = #1+", "1 = a b");
        c.parses("ac", 0, FAIL, 1, "0 = #1+", "1 = a b");
        c.parses("aaa", 0, FAIL, 3, "0 = a+ a");
    }

    private void and() {
        c.sentence("AND: one test; the item succeeds ending at q iff the test succeeds.");
        c.parses("ab", 0, 0, 0, "0 = &a");
        c.parses("ab", 1, FAIL, 1, "0 = &a");
        c.parses("ab", 2, FAIL, 2, "0 = &.");
        c.parses("", 0, FAIL, 0, "0 = &.");
        c.parses("abx", 0, 0, 1, "0 = &#1", "1 = a b");
        c.parses("ax", 0, FAIL, 1, "0 = &#1", "1 = a b");
        c.parses("ab", 2, 2, 2, "0 = &#1", "1 = a?");
        c.parses("abc", 0, 1, 2, "0 = &#1 a", "1 = a b c");
        c.parses("aaa", 0, 1, 0, "0 = &a &a a");
    }

    private void not() {
        c.sentence("NOT: one test; the item succeeds ending at q iff the test fails.");
        c.parses("ab", 0, FAIL, 0, "0 = !a");
        c.parses("ab", 1, 1, 1, "0 = !a");
        c.parses("ab", 2, 2, 2, "0 = !.");
        c.parses("", 0, 0, 0, "0 = !.");
        c.parses("abx", 0, FAIL, 1, "0 = !#1", "1 = a b");
        c.parses("ax", 0, 0, 1, "0 = !#1", "1 = a b");
        c.parses("ab", 2, FAIL, 2, "0 = !#1", "1 = a?");
        c.parses("ab", 2, 2, -1, "0 = !#1");
        c.parses("xyz", 0, 3, 3, "0 = .* !.");
        c.parses("ba", 0, 1, 0, "0 = !a b");
    }

    private void itemExaminesTheUnion() {
        c.sentence("The item examines the union of what all its tests examined.");
        // The first test goes as far as 3, the second, which fails, only to 1.
        c.parses("abcx", 0, 1, 3, "0 = #1*", "1 = a b c d", "1 = a");
        c.parses("abcx", 0, 1, 3, "0 = #1+", "1 = a b c d", "1 = a");
        // The last test goes furthest.
        c.parses("aaab", 0, 3, 4, "0 = #1*", "1 = a", "1 = b c");
        c.parses("ab", 0, 1, 1, "0 = a*");
    }

    private void itemsInOrder() {
        c.sentence("Its items are tried in order, each started where the previous one ended (the first at p).");
        c.parses("abcd", 0, 4, 3, "0 = a b c d");
        c.parses("abcd", 0, FAIL, 0, "0 = b a c d");
        c.parses("xabcd", 1, 5, 4, "0 = a b c d");
        c.parses("xabcd", 0, FAIL, 0, "0 = a b c d");
        // An item that takes nothing leaves the next one where it was itself.
        c.parses("abcd", 0, 4, 4, "0 = x? .+ !. y*");
        c.parses("abcd", 2, 3, 2, "0 = &c !d x? c");
        c.parses("abab", 0, 4, 3, "0 = #1 #1", "1 = a b");
    }

    private void firstFailingItem() {
        c.sentence("The first failing item makes the alternative fail, and later items are not tried.");
        c.parses("abcd", 0, FAIL, 0, "0 = x &. . .");
        c.parses("abcd", 0, FAIL, 1, "0 = a x c d");
        c.parses("abcd", 0, FAIL, 2, "0 = a b x d");
        c.parses("abcd", 0, FAIL, 3, "0 = a b c x");
        c.parses("abcd", 0, FAIL, 0, "0 = !a #1", "1 = . . . .");
        c.parses("abcd", 0, FAIL, -1, "0 = #1 a");
        c.parses("abcd", 0, FAIL, 0, "0 = x* x a* a");
    }

    private void allItemsSucceed() {
        c.sentence("If all succeed, the alternative succeeds ending where the last item ended;");
        c.parses("abcd", 0, 4, 3, "0 = a b c d");
        c.parses("abcd", 0, 2, 2, "0 = a b &c !d");
        c.parses("abcd", 3, 4, 4, "0 = d !. d? d*");
        c.parses("abcd", 4, 4, 4, "0 = !. d? d* !d");
    }

    private void emptyAlternative() {
        c.sentence("an empty alternative succeeds at p, examining nothing.");
        for (int p = 0; p <= 4; p++) {
            c.parses("abcd", p, p, -1, "0 =");
            c.parses("abcd", p, p, -1, "0 =", "0 = a b c d");
        }
        c.parses("", 0, 0, -1, "0 =");
        c.parses(LONGEST, 24, 24, -1, "0 =");
        c.parses("abcd", 2, 2, 2, "0 = x", "0 =");
    }

    private void alternativeExaminesTheUnion() {
        c.sentence("The alternative examines the union over the items tried.");
        // The first item goes further than the later ones, and the other way round.
        c.parses("abcd", 0, 2, 3, "0 = &#1 a b", "1 = . . . .");
        c.parses("abcd", 0, 2, 4, "0 = a b !#1", "1 = c d e");
        c.parses("abcd", 0, FAIL, 3, "0 = &#1 a x", "1 = . . . .");
    }

    private void everyPosition() {
        c.sentence("M(r, p), for 0 <= p <= n");
        for (int n = 0; n <= 24; n++) {
            IncrementalPackrat x = Grammars.compiled(8, 24, "0 = a", "7 = a*");
            Checks.append(x, LONGEST.substring(0, n));
            for (int p = 0; p <= n; p++) {
                c.due("M(0, " + p + ") of " + n + " chars", x.parse(0, p), p < n ? p + 1 : FAIL);
                c.due("M(7, " + p + ") of " + n + " chars", x.parse(7, p), n);
            }
        }
    }

    private void firstSuccessWins() {
        c.sentence("the alternatives of r are tried in order; the first that succeeds gives success with its end e"
            + " (p <= e <= n); if none succeeds, M(r, p) fails.");
        c.parses("ab", 0, 1, 0, "0 = a", "0 = a b");
        c.parses("ab", 0, 2, 1, "0 = a b", "0 = a");
        c.parses("ac", 0, 1, 1, "0 = a b", "0 = a");
        c.parses("zz", 0, FAIL, 0, "0 = a", "0 = b");
        c.parses("zz", 2, FAIL, 2, "0 = a", "0 = b");
        // The choice of an inner rule is not taken back.
        c.parses("abc", 0, FAIL, 1, "0 = #1 c", "1 = a", "1 = a b");
        String[] sixteen = new String[16];
        for (int i = 0; i < 16; i++) {
            sixteen[i] = "0 = " + (char) ('a' + i);
        }
        c.parses("p", 0, 1, 0, sixteen);
        c.parses("q", 0, FAIL, 0, sixteen);
    }

    private void unionOverAlternatives() {
        c.sentence("The examined set is the union over all alternatives tried.");
        c.parses("abcx", 0, 1, 3, "0 = a b c d", "0 = a");
        c.parses("ab", 0, FAIL, 2, "0 = a b c", "0 = b");
        c.parses("ab", 0, FAIL, 2, "0 = b", "0 = a b c");
        // What comes behind the winner is not tried.
        c.parses("abcd", 0, 1, 0, "0 = a", "0 = a b c d");
    }

    private void noAlternative() {
        c.sentence("A rule with no alternative fails with an empty examined set.");
        for (int p = 0; p <= 4; p++) {
            c.parses("abcd", p, FAIL, -1);
            c.parses("abcd", p, FAIL, -1, "0 = #1");
            c.parses("abcd", p, p, -1, "0 = !#1");
            c.parses("abcd", p, FAIL, -1, "1 = a");
        }
        c.parses("abcd", 0, 1, 0, "0 = #1", "0 = a");
        c.parses("", 0, FAIL, -1);
    }

    /** Every rule at every position ends within the text or fails, and none is refused. */
    private void finite(String text, String... alts) {
        IncrementalPackrat x = Grammars.compiled(8, 24, alts);
        Checks.append(x, text);
        for (int r = 0; r < 8; r++) {
            for (int p = 0; p <= text.length(); p++) {
                int end = x.parse(r, p);
                c.due("parse(" + r + ", " + p + ") by " + String.join(" / ", alts),
                    end == FAIL || end >= p && end <= text.length(), true);
            }
        }
    }

    private void finiteEverywhere() {
        c.sentence("After a compile() that answered COMPILE_OK, M is defined (finite) for every rule and position.");
        String[] down = {"0 = #1", "1 = #2", "2 = #3", "3 = #4", "4 = #5", "5 = #6", "6 = #7", "7 = a #0", "7 ="};
        String[] up = {"0 = a #7", "0 =", "7 = #6", "6 = #5", "5 = #4", "4 = #3", "3 = #2", "2 = #1", "1 = #0"};
        String[] many = {"0 = #1 c", "1 = a #1 x", "1 = a #1 y", "1 = a #1", "1 = b"};
        String[] nest = {"0 = ( #0 ) #0", "0 ="};
        String[] abc = {"0 = &#3 a+ #2 !.", "1 = a #1? b", "2 = b #2? c", "3 = #1 c"};
        finite(LONGEST, down);
        finite(LONGEST, up);
        finite(LONGEST, many);
        finite("(((((((((((())))))))))))", nest);
        c.parses(LONGEST, 0, 24, 24, down);
        c.parses(LONGEST, 0, 24, 24, up);
        // Exponentially many ways, if nothing were kept.
        c.parses("aaaaaaaaaaaaaaaaaaaaaaab", 0, FAIL, 24, many);
        c.parses("(((((((((((())))))))))))", 0, 24, 24, nest);
        c.parses("(()())()", 0, 8, 8, nest);
        c.parses("((((((((((((", 0, 0, 12, nest);
        c.parses("(()", 0, 0, 3, nest);
        c.parses("xyx", 0, 2, 3, "0 = x #1", "1 = y #0", "1 = y");
        c.parses("aaabbbccc", 0, 9, 9, abc);
        c.parses("aabbbccc", 0, FAIL, 4, abc);
        c.parses("aaabbbcc", 0, FAIL, 8, abc);
    }

    private void editsForget() {
        c.sentence("General rules: a successful edit (insertChar, deleteRange, replaceRange answering true) sets F = -1"
            + " and K = 0.");
        Edits.forgets(c, "insertChar(4, a)", "abca", x -> x.insertChar(4, 'a'));
        Edits.forgets(c, "deleteRange(3, 1)", "abca", x -> x.deleteRange(3, 1));
        Edits.forgets(c, "replaceRange(3, 1, a)", "abca", x -> x.replaceRange(3, 1, 'a'));
    }

    private static boolean allRefused(IncrementalPackrat x) {
        boolean edits = x.insertChar(-1, 'z') || x.deleteRange(4, 1) || x.replaceRange(0, 5, 'z');
        boolean builds = x.newAlt(Scenes.RULES) != -1 || x.addItem(4, 0, 0, 0) != -1;
        return !edits && !builds && x.parse(0, 5) == IncrementalPackrat.PARSE_REFUSED;
    }

    private void refusedCalls() {
        c.sentence("Every refused call answers as stated and changes nothing.");
        Traces.noneInAnyScene(c, "refused calls of all kinds", "abca", MeaningTest::allRefused, true);
        Function<IncrementalPackrat, Object> frozen = x -> x.newAlt(0) == -1 && x.addItem(2, 0, 0, 0) == -1
            && x.compile() == IncrementalPackrat.COMPILE_FROZEN;
        for (int scene : Scenes.FROZEN_ONES) {
            Traces.none(c, "building calls " + Scenes.name(scene), () -> Scenes.make(scene, "abca"), frozen, true);
        }
    }

    public static void main(String[] args) {
        MeaningTest t = new MeaningTest();
        t.c.run(t::charBase, t::rangeBase, t::anyBase, t::ruleBase, t::testsOfChars, t::testsOfRules,
            t::eachTestWhereTheLastEnded, t::one, t::opt, t::star, t::plus, t::and, t::not, t::itemExaminesTheUnion,
            t::itemsInOrder, t::firstFailingItem, t::allItemsSucceed, t::emptyAlternative,
            t::alternativeExaminesTheUnion, t::everyPosition, t::firstSuccessWins, t::unionOverAlternatives,
            t::noAlternative, t::finiteEverywhere, t::editsForget, t::refusedCalls);
    }
}
