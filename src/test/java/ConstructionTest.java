/** Promise 1: construction and starting state. */
public final class ConstructionTest {
    private static final int LOW = Integer.MIN_VALUE;
    private static final int HIGH = Integer.MAX_VALUE;

    private final Checks c = new Checks("ConstructionTest");

    /** R, as each call that takes a rule number shows it: how many numbers it takes. */
    private void rulesAre(int rules, int want) {
        IncrementalPackrat x = new IncrementalPackrat(rules, 10);
        int owners = 0;
        int called = 0;
        int parsed = 0;
        for (int r = -10; r < 20; r++) {
            owners += x.newAlt(r) >= 0 ? 1 : 0;
            called += x.addItem(IncrementalPackrat.KIND_RULE, r, 0, IncrementalPackrat.MODE_ONE) >= 0 ? 1 : 0;
        }
        IncrementalPackrat y = new IncrementalPackrat(rules, 10);
        y.compile();
        for (int r = -10; r < 20; r++) {
            parsed += y.parse(r, 0) != IncrementalPackrat.PARSE_REFUSED ? 1 : 0;
        }
        c.due("R for " + rules + ", by newAlt", owners, want);
        c.due("R for " + rules + ", by addItem", called, want);
        c.due("R for " + rules + ", by parse", parsed, want);
    }

    /** T, seen from outside: how many chars fit. */
    private static int capacityOf(IncrementalPackrat x) {
        for (int i = 0; i < 100 && x.insertChar(0, 'x'); i++) {
            continue;
        }
        return x.textLength();
    }

    private void capacityIs(int capacity, int want) {
        c.due("T for " + capacity, capacityOf(new IncrementalPackrat(1, capacity)), want);
    }

    private void rulesAreClamped() {
        c.sentence("sets R to rules clamped into 1..8 (any value below 1 becomes 1, any value above 8 becomes 8)");
        for (int rules = 1; rules <= 8; rules++) {
            rulesAre(rules, rules);
        }
        for (int rules : Numbers.below(1)) {
            rulesAre(rules, 1);
        }
        for (int rules : Numbers.above(8)) {
            rulesAre(rules, 8);
        }
    }

    private void capacityIsClamped() {
        c.sentence("T to capacity clamped into 8..24 (below 8 becomes 8, above 24 becomes 24)");
        for (int capacity = 8; capacity <= 24; capacity++) {
            capacityIs(capacity, capacity);
        }
        for (int capacity = -1; capacity < 8; capacity++) {
            capacityIs(capacity, 8);
        }
        for (int capacity : Numbers.below(8)) {
            capacityIs(capacity, 8);
        }
        for (int capacity : Numbers.above(24)) {
            capacityIs(capacity, 24);
        }
    }

    private void everyIntIsAccepted() {
        c.sentence("Every int value is accepted, including the extremes of the int range.");
        int[] extremes = {LOW, LOW + 1, -1, 0, HIGH - 1, HIGH};
        for (int rules : extremes) {
            for (int capacity : extremes) {
                IncrementalPackrat x = new IncrementalPackrat(rules, capacity);
                String name = "(" + rules + ", " + capacity + ")";
                c.due(name + " last rule", x.newAlt(rules < 1 ? 0 : 7), 0);
                c.due(name + " rule behind it", x.newAlt(rules < 1 ? 1 : 8), -1);
                c.due(name + " capacity", capacityOf(x), capacity < 8 ? 8 : 24);
                c.due(name + " compile", x.compile(), IncrementalPackrat.COMPILE_OK);
                c.due(name + " parse", x.parse(rules < 1 ? 0 : 7, x.textLength()), x.textLength());
            }
        }
    }

    private void atStart() {
        c.sentence("At start: the phase is BUILDING; no alternatives exist (so no current alternative);"
            + " the text is empty (n = 0); F = -1; K = 0.");
        IncrementalPackrat x = new IncrementalPackrat(3, 9);
        c.due("isCompiled", x.isCompiled(), false);
        c.due("parse(0, 0)", x.parse(0, 0), IncrementalPackrat.PARSE_REFUSED);
        c.due("addItem", x.addItem(IncrementalPackrat.KIND_ANY, 0, 0, IncrementalPackrat.MODE_ONE), -1);
        c.due("textLength", x.textLength(), 0);
        c.due("charAt(0)", x.charAt(0), -1);
        c.due("deleteRange(0, 1)", x.deleteRange(0, 1), false);
        c.due("replaceRange(0, 1, a)", x.replaceRange(0, 1, 'a'), false);
        c.due("furthest", x.furthest(), -1);
        c.due("nodeCount", x.nodeCount(), 0);
        c.due("node 0", Checks.nodeOf(x, 0), "-1 -1 -1 -1");
        c.due("the first alternative", x.newAlt(0), 0);
        IncrementalPackrat y = new IncrementalPackrat(3, 9);
        c.due("compile", y.compile(), IncrementalPackrat.COMPILE_OK);
        for (int r = 0; r < 3; r++) {
            c.due("no alternative of rule " + r, y.parse(r, 0), IncrementalPackrat.PARSE_FAIL);
        }
    }

    private void neverChange() {
        c.sentence("R and T never change afterwards.");
        IncrementalPackrat x = new IncrementalPackrat(3, 9);
        x.newAlt(2);
        x.addItem(IncrementalPackrat.KIND_ANY, 0, 0, IncrementalPackrat.MODE_STAR);
        c.due("R while building", x.newAlt(3), -1);
        c.due("T while building", capacityOf(x), 9);
        x.compile();
        x.deleteRange(0, 9);
        c.due("T after a delete", capacityOf(x), 9);
        c.due("the last rule after compile", x.parse(2, 0), 9);
        c.due("R after compile", x.parse(3, 0), IncrementalPackrat.PARSE_REFUSED);
        x.replaceRange(0, 9, 'y');
        c.due("T after a replace", capacityOf(x), 9);
        c.due("R after edits", x.parse(3, 0), IncrementalPackrat.PARSE_REFUSED);
        new IncrementalPackrat(8, 24);
        c.due("R after another object is made", x.parse(3, 0), IncrementalPackrat.PARSE_REFUSED);
        c.due("T after another object is made", x.insertChar(0, 'z'), false);
    }

    public static void main(String[] args) {
        ConstructionTest t = new ConstructionTest();
        t.c.run(t::rulesAreClamped, t::capacityIsClamped, t::everyIntIsAccepted, t::atStart, t::neverChange);
    }
}
