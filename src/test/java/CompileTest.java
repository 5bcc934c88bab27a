/** Promise 4: compile accepts or rejects the grammar. Promise 5: isCompiled. */
public final class CompileTest {
    private static final int OK = IncrementalPackrat.COMPILE_OK;
    private static final int FROZEN = IncrementalPackrat.COMPILE_FROZEN;
    private static final int BAD_REPEAT = IncrementalPackrat.COMPILE_BAD_REPEAT;
    private static final int LEFT_RECURSION = IncrementalPackrat.COMPILE_LEFT_RECURSION;

    private static void answers(Checks c, int want, String... alts) {
        IncrementalPackrat x = Grammars.building(8, 24, alts);
        Checks.append(x, "some text");
        String before = Checks.stateOf(x);
        String name = String.join(" / ", alts);
        c.due("compile of " + name, x.compile(), want);
        c.due("isCompiled of " + name, x.isCompiled(), want == OK);
        c.due("state of " + name, Checks.stateOf(x), before.replaceFirst("false", want == OK ? "true" : "false"));
        c.due("compile again of " + name, x.compile(), want == OK ? FROZEN : want);
    }

    private static void accepted(Checks c) {
        answers(c, OK);
        answers(c, OK, "0 =");
        answers(c, OK, "0 = a* b? &c !d");
        answers(c, OK, "0 = #1", "1 = #2", "2 = #3", "3 = #4", "4 = #5", "5 = #6", "6 = #7", "7 = a");
        answers(c, OK, "7 = #6", "6 = #5", "5 = #4", "4 = #3", "3 = #2", "2 = #1", "1 = #0", "0 =");
        answers(c, OK, "0 = a #0", "0 = b");
        answers(c, OK, "0 = a+ #0");
        answers(c, OK, "0 = . #0*");
        answers(c, OK, "0 = a-z #0+");
        answers(c, OK, "0 = a? b #0 #1", "1 = b #0");
        answers(c, OK, "0 = #1*", "1 = a b*");
        answers(c, OK, "0 = #1 #0", "1 = a");
        answers(c, OK, "0 = #1+ #0", "1 = a");
        answers(c, OK, "0 = #1? #1 &#1 !#1", "1 =");
        // A rule without alternatives is not nullable, so what stands behind it is not called at start.
        answers(c, OK, "0 = #1 #0");
        answers(c, OK, "0 = #1* #1+");
        // A full alternative ends with its fourth item, whatever the next one holds.
        answers(c, OK, "0 = a? b? c? d?", "1 = #0");
        answers(c, OK, "0 = a b c d", "1 =", "2 = #1");
        answers(c, OK, fullGrammar("a? b* &c !d"));
        answers(c, OK, fullGrammar("a b+ . d"));
    }

    /** As many alternatives as there can be, each with these four items. */
    private static String[] fullGrammar(String items) {
        String[] alts = new String[IncrementalPackrat.MAX_ALTS];
        for (int i = 0; i < alts.length; i++) {
            alts[i] = i / 2 + " = " + items;
        }
        return alts;
    }

    private static void badRepeats(Checks c) {
        answers(c, BAD_REPEAT, "0 = #1*", "1 =");
        answers(c, BAD_REPEAT, "0 = #1+", "1 =");
        answers(c, BAD_REPEAT, "0 = a #1+", "1 = b", "1 =");
        answers(c, BAD_REPEAT, "0 = a b c #1*", "1 = a? b* &c !d");
        answers(c, BAD_REPEAT, "0 = #1*", "1 = #2 #2", "2 = #3", "3 = &a");
        answers(c, BAD_REPEAT, "0 = #1*", "1 = !a");
        answers(c, BAD_REPEAT, "0 = #1*", "1 = #2?");
        answers(c, BAD_REPEAT, "0 = #1*", "1 = #2*", "2 = a");
        answers(c, BAD_REPEAT, "5 = a #5*", "5 =");
        // Seven steps from the one empty rule, against the order of the rules and along with it.
        answers(c, BAD_REPEAT, "0 = #1", "1 = #2", "2 = #3", "3 = #4", "4 = #5", "5 = #6", "6 = #7", "7 =",
            "7 = x #0*");
        answers(c, BAD_REPEAT, "7 = #6", "6 = #5", "5 = #4", "4 = #3", "3 = #2", "2 = #1", "1 = #0", "0 =",
            "0 = x #7+");
        // PLUS over a nullable rule is nullable itself.
        answers(c, BAD_REPEAT, "0 = #1*", "1 = #2+", "2 =");
        // A bad repeat is told before a left recursion.
        answers(c, BAD_REPEAT, "0 = #0", "1 = #2*", "2 =");
        answers(c, BAD_REPEAT, "0 = #0*", "0 =");
        answers(c, BAD_REPEAT, "0 = #0* a", "0 = b?");
    }

    private static void leftRecursions(Checks c) {
        answers(c, LEFT_RECURSION, "0 = #0");
        answers(c, LEFT_RECURSION, "0 = #0?");
        answers(c, LEFT_RECURSION, "0 = #0* a");
        answers(c, LEFT_RECURSION, "0 = #0+");
        answers(c, LEFT_RECURSION, "0 = &#0 a");
        answers(c, LEFT_RECURSION, "0 = !#0 a");
        answers(c, LEFT_RECURSION, "0 = a", "0 = b", "0 = #0 c");
        answers(c, LEFT_RECURSION, "0 = a? b* &c #0");
        answers(c, LEFT_RECURSION, "0 = !a #0 b");
        answers(c, LEFT_RECURSION, "0 = #1 #0", "1 =");
        answers(c, LEFT_RECURSION, "0 = #1 #1 #1 #0", "1 = a", "1 = b?");
        answers(c, LEFT_RECURSION, "0 = #1", "1 = #0");
        answers(c, LEFT_RECURSION, "3 = #4 a", "4 = x", "4 = y? #5", "5 = !#3 z");
        answers(c, LEFT_RECURSION, "0 = #1", "1 = #2", "2 = #3", "3 = #4", "4 = #5", "5 = #6", "6 = #7", "7 = #0");
        answers(c, LEFT_RECURSION, "7 = a", "6 = #6 b");
        // The rule that recurses is never reached by a success, but the edge counts.
        answers(c, LEFT_RECURSION, "0 = #0 a", "1 = b");
        // #1 is not nullable at all, but OPT makes the item nullable.
        answers(c, LEFT_RECURSION, "0 = #1? #0");
        answers(c, LEFT_RECURSION, "0 = #1* #0", "1 = a");
    }

    private static void extendedAfterRejection(Checks c) {
        IncrementalPackrat x = Grammars.building(3, 8, "0 = #1*", "1 = a?");
        c.due("bad repeat", x.compile(), BAD_REPEAT);
        c.due("parse is still refused", x.parse(0, 0), IncrementalPackrat.PARSE_REFUSED);
        c.due("item after rejection", x.addItem(IncrementalPackrat.KIND_CHAR, 'b', 0, 0), 1);
        c.due("not nullable any more", x.compile(), OK);
        Checks.append(x, "abbc");
        c.due("parse", x.parse(0, 0), 3);

        IncrementalPackrat y = Grammars.building(2, 8, "0 = #1 #0", "1 = b", "1 =");
        c.due("left recursion", y.compile(), LEFT_RECURSION);
        c.due("the alternatives go on from 3", y.newAlt(1), 3);
        c.due("left recursion again", y.compile(), LEFT_RECURSION);

        IncrementalPackrat z = Grammars.building(2, 8, "0 = #0");
        Checks.append(z, "x");
        c.due("left recursion of one rule", z.compile(), LEFT_RECURSION);
        Grammars.add(z, "1 = #1* b");
        c.due("still left recursion", z.compile(), LEFT_RECURSION);
        z.newAlt(1);
        c.due("now a bad repeat", z.compile(), BAD_REPEAT);
        c.due("isCompiled", z.isCompiled(), false);
    }

    private static void frozenChangesNothing(Checks c) {
        IncrementalPackrat x = Grammars.compiled(2, 8, "0 = #1*", "1 = a");
        Checks.append(x, "aab");
        c.due("parse", x.parse(0, 0), 2);
        String before = Checks.stateOf(x);
        c.due("compile when frozen", x.compile(), FROZEN);
        c.due("isCompiled twice", x.isCompiled() && x.isCompiled(), true);
        c.due("state after compile", Checks.stateOf(x), before);
        c.due("parse again", x.parse(0, 0), 2);
        x.deleteRange(0, 3);
        c.due("isCompiled after an edit", x.isCompiled(), true);
    }

    public static void main(String[] args) {
        Checks c = new Checks("CompileTest");
        accepted(c);
        badRepeats(c);
        leftRecursions(c);
        extendedAfterRejection(c);
        frozenChangesNothing(c);
        c.end();
    }
}
