import java.util.function.Supplier;

/** Promise 4: compile accepts or rejects the grammar. */
public final class CompileTest {
    private static final int OK = IncrementalPackrat.COMPILE_OK;
    private static final int FROZEN = IncrementalPackrat.COMPILE_FROZEN;
    private static final int BAD_REPEAT = IncrementalPackrat.COMPILE_BAD_REPEAT;
    private static final int LEFT_RECURSION = IncrementalPackrat.COMPILE_LEFT_RECURSION;
    private static final String[] MODES = {"#1", "#1?", "#1*", "#1+", "&#1", "!#1"};

    private final Checks c = new Checks("CompileTest");

    private void answers(int want, String... alts) {
        IncrementalPackrat x = Grammars.building(8, 24, alts);
        c.due("compile of " + String.join(" / ", alts), x.compile(), want);
    }

    /** Rule 1 is repeated behind a char, so nothing but its nullability can reject the grammar. */
    private void nullable(boolean want, String... alts) {
        IncrementalPackrat x = Grammars.building(8, 24, "0 = x #1*");
        Grammars.add(x, alts);
        c.due("compile of a repeat of rule 1 in " + String.join(" / ", alts), x.compile(), want ? BAD_REPEAT : OK);
    }

    private void frozen() {
        c.sentence("Phase FROZEN: answers COMPILE_FROZEN.");
        for (int scene : Scenes.FROZEN_ONES) {
            IncrementalPackrat x = Scenes.make(scene, "abca");
            c.due("compile " + Scenes.name(scene), x.compile(), FROZEN);
            c.due("and again", x.compile(), FROZEN);
            x.deleteRange(0, 1);
            c.due("and after an edit", x.compile(), FROZEN);
        }
        IncrementalPackrat none = new IncrementalPackrat(1, 8);
        c.due("compile of no alternatives", none.compile(), OK);
        c.due("and again", none.compile(), FROZEN);
    }

    private void nullableItems() {
        c.sentence("an item is nullable iff its mode is OPT, STAR, AND or NOT, or its mode is ONE or PLUS and its base"
            + " is KIND_RULE s with s nullable;");
        for (String base : new String[] {"a", "a-z", ".", "#2"}) {
            nullable(false, "1 = " + base, "2 = b");
            nullable(true, "1 = " + base + "?", "2 = b");
            nullable(true, "1 = " + base + "*", "2 = b");
            nullable(false, "1 = " + base + "+", "2 = b");
            nullable(true, "1 = &" + base, "2 = b");
            nullable(true, "1 = !" + base, "2 = b");
        }
        nullable(true, "1 = #2", "2 =");
        nullable(true, "1 = #2?", "2 =");
        nullable(true, "1 = &#2", "2 =");
        nullable(true, "1 = !#2", "2 =");
        // PLUS of a nullable rule is a bad repeat whatever stands around it.
        answers(BAD_REPEAT, "0 = x #1+", "1 = #2", "2 =");
    }

    private void nullableAlternatives() {
        c.sentence("an alternative is nullable iff all its items are (an empty one is);");
        nullable(true, "1 =");
        nullable(true, "1 = a? b* &c !d");
        nullable(false, "1 = a b* &c !d");
        nullable(false, "1 = a? b &c !d");
        nullable(false, "1 = a? b* c !d");
        nullable(false, "1 = a? b* &c d");
        // A full alternative ends with its fourth item, whatever the next one holds.
        nullable(true, "1 = a? b? c? d?", "2 = e");
        nullable(false, "1 = a b c d", "2 =");
        nullable(true, "3 = a b c d", "1 =", "2 = a b c d");
    }

    private void nullableRules() {
        c.sentence("a rule is nullable iff one of its alternatives is (a rule without alternatives is not).");
        nullable(false);
        nullable(false, "2 =");
        nullable(false, "1 = a", "1 = b", "1 = c");
        nullable(true, "1 =", "1 = b", "1 = c");
        nullable(true, "1 = a", "1 =", "1 = c");
        nullable(true, "1 = a", "1 = b", "1 =");
        nullable(false, "1 = #2", "3 =");
        answers(OK, "0 = x #1* #1+ #1");
        // Rule 1 is not nullable, so the call behind it is no call at start.
        answers(OK, "0 = #1 #0");
    }

    private void charsAreNotNullable() {
        c.sentence("Char bases with mode ONE or PLUS are not nullable.");
        for (String base : new String[] {"a", "a-z", "."}) {
            nullable(false, "1 = " + base);
            nullable(false, "1 = " + base + "+");
            answers(OK, "0 = " + base + " #0");
            answers(OK, "0 = " + base + "+ #0");
        }
        // The rule number that a char would be is nullable here.
        IncrementalPackrat x = Grammars.building(8, 24, "0 = x #1*", "5 =", "1 =");
        x.addItem(IncrementalPackrat.KIND_CHAR, 5, 0, IncrementalPackrat.MODE_ONE);
        c.due("a char with the number of a nullable rule", x.compile(), OK);
    }

    private void leastSolution() {
        c.sentence("NULLABLE is the least solution");
        // Rules that are nullable only if they are: not in the least solution, but left recursive.
        answers(LEFT_RECURSION, "0 = x #1*", "1 = #1");
        answers(LEFT_RECURSION, "0 = x #1*", "1 = #2", "2 = #1");
        answers(LEFT_RECURSION, "0 = #0+");
        // As many steps from the one empty rule as there can be, against the rules' order and along with it.
        answers(BAD_REPEAT, "0 = #1", "1 = #2", "2 = #3", "3 = #4", "4 = #5", "5 = #6", "6 = #7", "7 =", "7 = x #0*");
        answers(BAD_REPEAT, "7 = #6", "6 = #5", "5 = #4", "4 = #3", "3 = #2", "2 = #1", "1 = #0", "0 =", "0 = x #7*");
    }

    private void badRepeats() {
        c.sentence("If some item has mode STAR or PLUS and base KIND_RULE s with s nullable: answers"
            + " COMPILE_BAD_REPEAT.");
        for (int mode = 0; mode < MODES.length; mode++) {
            int want = mode == IncrementalPackrat.MODE_STAR || mode == IncrementalPackrat.MODE_PLUS ? BAD_REPEAT : OK;
            answers(want, "0 = " + MODES[mode], "1 =");
            answers(want, "0 = a b c " + MODES[mode], "1 = x?");
            answers(OK, "0 = " + MODES[mode], "1 = x");
        }
        answers(BAD_REPEAT, "5 = a #5*", "5 =");
        answers(BAD_REPEAT, "7 = a", "7 = b", "7 = c #6+", "6 = !d");
        String[] full = fullGrammar("a b+ . d");
        answers(OK, full);
        full[0] = "0 =";
        full[15] = "7 = a b c #0*";
        answers(BAD_REPEAT, full);
        answers(OK, "0 = a* .* a-z+");
    }

    /** As many alternatives as there can be, each with these items. */
    private static String[] fullGrammar(String items) {
        String[] alts = new String[IncrementalPackrat.MAX_ALTS];
        for (int i = 0; i < alts.length; i++) {
            alts[i] = i / 2 + " = " + items;
        }
        return alts;
    }

    private void badRepeatsComeFirst() {
        c.sentence("compile() answers as follows, in this order.");
        answers(BAD_REPEAT, "0 = #0", "1 = #2*", "2 =");
        answers(BAD_REPEAT, "0 = #0*", "0 =");
        answers(BAD_REPEAT, "0 = #0* a", "0 = b?");
        answers(LEFT_RECURSION, "0 = #0", "1 = #2*", "2 = a");
    }

    private void callsAtStart() {
        c.sentence("r calls s at start iff some alternative of r holds an item with base KIND_RULE s (any mode) all of"
            + " whose preceding items in that alternative are nullable.");
        for (String item : new String[] {"#0", "#0?", "#0*", "#0+", "&#0", "!#0"}) {
            answers(LEFT_RECURSION, "0 = " + item + " c");
            answers(LEFT_RECURSION, "0 = a", "0 = b", "0 = " + item + " c");
            answers(LEFT_RECURSION, "0 = a? b* " + item + " c");
            answers(LEFT_RECURSION, "0 = !a #1 " + item + " c", "1 = a", "1 =");
            answers(OK, "0 = a " + item);
            answers(OK, "0 = a+ " + item);
            answers(OK, "0 = a? b* c " + item);
            answers(OK, "0 = #1 " + item, "1 = a");
            answers(OK, "0 = #1+ " + item, "1 = a");
        }
        answers(LEFT_RECURSION, "0 = a? b* &c #0");
        answers(LEFT_RECURSION, "0 = #1? #0", "1 = a");
        answers(LEFT_RECURSION, "0 = #1* #0", "1 = a");
        answers(LEFT_RECURSION, "0 = #1 #1 #1 #0", "1 = a", "1 = b?");
        // The preceding items of another alternative don't count.
        answers(LEFT_RECURSION, "0 = a", "0 = #0 a");
        answers(OK, "0 =", "0 = a #0");
        answers(OK, "0 = a? b #0 #1", "1 = b #0");
    }

    private void cycles() {
        c.sentence("If these edges form a cycle (an edge from r to r included): answers COMPILE_LEFT_RECURSION.");
        for (int r = 0; r < 8; r++) {
            int s = (r + 1) % 8;
            answers(LEFT_RECURSION, r + " = #" + r);
            answers(LEFT_RECURSION, r + " = #" + s, s + " = #" + r);
            answers(OK, r + " = #" + s, s + " = a #" + r);
        }
        answers(LEFT_RECURSION, "0 = #1", "1 = #2", "2 = #3", "3 = #4", "4 = #5", "5 = #6", "6 = #7", "7 = #0");
        answers(LEFT_RECURSION, "7 = #6", "6 = #5", "5 = #4", "4 = #3", "3 = #2", "2 = #1", "1 = #0", "0 = #7");
        answers(LEFT_RECURSION, "0 = #1", "1 = #2", "2 = #3", "3 = #4", "4 = #5", "5 = #6", "6 = #7", "7 = #6");
        answers(LEFT_RECURSION, "3 = #4 a", "4 = x", "4 = y? #5", "5 = !#3 z");
        // Two ways to one rule are no cycle.
        answers(OK, "0 = #1", "0 = #2", "1 = #3", "2 = #3", "3 = a");
    }

    private void accepted() {
        c.sentence("Otherwise the phase becomes FROZEN and the answer is COMPILE_OK.");
        String[][] good = {{}, {"0 ="}, {"0 = a* b? &c !d"}, fullGrammar("a? b* &c !d"), fullGrammar("a b+ . d"),
            {"0 = #1", "1 = #2", "2 = #3", "3 = #4", "4 = #5", "5 = #6", "6 = #7", "7 = a"},
            {"7 = #6", "6 = #5", "5 = #4", "4 = #3", "3 = #2", "2 = #1", "1 = #0", "0 ="}};
        for (String[] alts : good) {
            IncrementalPackrat x = Grammars.building(8, 24, alts);
            String name = String.join(" / ", alts);
            c.due("isCompiled before " + name, x.isCompiled(), false);
            c.due("compile of " + name, x.compile(), OK);
            c.due("isCompiled after " + name, x.isCompiled(), true);
            c.due("parse after " + name, x.parse(0, 0) != IncrementalPackrat.PARSE_REFUSED, true);
            c.due("newAlt after " + name, x.newAlt(0), -1);
        }
        for (int rules = 1; rules <= 8; rules++) {
            c.due("compile of " + rules + " empty rules", new IncrementalPackrat(rules, 8).compile(), OK);
        }
    }

    private static IncrementalPackrat rejected(String... alts) {
        IncrementalPackrat x = Grammars.building(3, 8, alts);
        Checks.append(x, "abba");
        return x;
    }

    private void rejectionChangesNothing() {
        c.sentence("A compile that does not answer COMPILE_OK changes nothing;");
        Supplier<IncrementalPackrat> repeat = () -> rejected("0 = #1*", "1 = a?");
        Supplier<IncrementalPackrat> recursion = () -> rejected("0 = #1 #0", "0 = b", "1 = a?");
        Traces.none(c, "compile of a bad repeat", repeat, x -> x.compile(), BAD_REPEAT);
        Traces.none(c, "compile of a left recursion", recursion, x -> x.compile(), LEFT_RECURSION);
        for (int scene : Scenes.FROZEN_ONES) {
            Traces.none(c, "compile " + Scenes.name(scene), () -> Scenes.make(scene, "abca"), x -> x.compile(), FROZEN);
        }
    }

    /** One more char in the last alternative, and the same grammar is accepted. */
    private void mended(int answer, String... alts) {
        IncrementalPackrat x = Grammars.building(8, 8, alts);
        String name = String.join(" / ", alts);
        c.due("compile of " + name, x.compile(), answer);
        c.due("an item to " + name, x.addItem(IncrementalPackrat.KIND_CHAR, 'b', 0, IncrementalPackrat.MODE_ONE), 1);
        c.due("compile again of " + name, x.compile(), OK);
    }

    private void extendedAfterRejection() {
        c.sentence("the phase stays as it was, so after a rejection in BUILDING the grammar can still be extended and"
            + " compiled again.");
        IncrementalPackrat x = rejected("0 = #1*", "1 = a?");
        c.due("bad repeat", x.compile(), BAD_REPEAT);
        c.due("isCompiled", x.isCompiled(), false);
        c.due("parse is still refused", x.parse(0, 0), IncrementalPackrat.PARSE_REFUSED);
        c.due("item after rejection", x.addItem(IncrementalPackrat.KIND_CHAR, 'b', 0, 0), 1);
        c.due("not nullable any more", x.compile(), OK);
        c.due("parse", x.parse(0, 0), 3);

        IncrementalPackrat y = rejected("0 = #1 #0", "0 = b", "1 = a?");
        c.due("left recursion", y.compile(), LEFT_RECURSION);
        c.due("isCompiled", y.isCompiled(), false);
        c.due("parse is still refused", y.parse(0, 0), IncrementalPackrat.PARSE_REFUSED);
        c.due("item after rejection", y.addItem(IncrementalPackrat.KIND_CHAR, 'b', 0, 0), 1);
        c.due("the call is not at start any more", y.compile(), OK);
        c.due("parse", y.parse(0, 0), 3);

        for (int r = 0; r < 8; r++) {
            int s = (r + 1) % 8;
            mended(BAD_REPEAT, s + " = x #" + r + "*", r + " = a?");
            mended(LEFT_RECURSION, s + " = #" + r + " #" + s, r + " = a?");
        }

        IncrementalPackrat z = rejected("0 = #0");
        c.due("left recursion of one rule", z.compile(), LEFT_RECURSION);
        Grammars.add(z, "1 = #1* b");
        c.due("still left recursion", z.compile(), LEFT_RECURSION);
        c.due("the alternatives go on", z.newAlt(1), 2);
        c.due("now a bad repeat", z.compile(), BAD_REPEAT);
        c.due("isCompiled", z.isCompiled(), false);
    }

    private void keepsTextAndOutcome() {
        c.sentence("compile() never changes the text, F or K.");
        String[][] grammars = {{"0 = a"}, {"0 = #1*", "1 ="}, {"0 = #0"}};
        for (String[] alts : grammars) {
            IncrementalPackrat x = rejected(alts);
            String before = Checks.stateOf(x);
            int answer = x.compile();
            // The state begins with what isCompiled answers.
            String want = answer == OK ? before.replaceFirst("false", "true") : before;
            c.due("state after compile of " + String.join(" / ", alts), Checks.stateOf(x), want);
            c.due("text after it", Checks.textOf(x), "abba");
        }
        for (int scene : Scenes.FROZEN_ONES) {
            IncrementalPackrat x = Scenes.make(scene, "abca");
            String before = Checks.stateOf(x);
            x.compile();
            c.due("state " + Scenes.name(scene), Checks.stateOf(x), before);
        }
    }

    public static void main(String[] args) {
        CompileTest t = new CompileTest();
        t.c.run(t::frozen, t::nullableItems, t::nullableAlternatives, t::nullableRules, t::charsAreNotNullable,
            t::leastSolution, t::badRepeats, t::badRepeatsComeFirst, t::callsAtStart, t::cycles, t::accepted,
            t::rejectionChangesNothing, t::extendedAfterRejection, t::keepsTextAndOutcome);
    }
}
