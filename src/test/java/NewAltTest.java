/** Promise 2: newAlt creates an alternative. */
public final class NewAltTest {
    private static void numbers(Checks c) {
        IncrementalPackrat x = new IncrementalPackrat(3, 8);
        c.due("below the rules", x.newAlt(-1), -1);
        c.due("above the rules", x.newAlt(3), -1);
        c.due("least int", x.newAlt(Integer.MIN_VALUE), -1);
        c.due("greatest int", x.newAlt(Integer.MAX_VALUE), -1);
        c.due("a refused call makes nothing current", x.addItem(2, 0, 0, 0), -1);
        for (int i = 0; i < 16; i++) {
            c.due("alternative " + i, x.newAlt(i % 3), i);
        }
        for (int r = -1; r <= 3; r++) {
            c.due("the seventeenth for rule " + r, x.newAlt(r), -1);
        }
        c.due("the last one is still current", x.addItem(2, 0, 0, 0), 0);
    }

    private static void currentIsTheNewest(Checks c) {
        IncrementalPackrat x = new IncrementalPackrat(2, 8);
        x.newAlt(0);
        x.addItem(IncrementalPackrat.KIND_CHAR, 'a', 0, 0);
        x.newAlt(1);
        c.due("first item of the second alternative", x.addItem(IncrementalPackrat.KIND_CHAR, 'b', 0, 0), 0);
        c.due("a refused newAlt", x.newAlt(9), -1);
        c.due("leaves the current one", x.addItem(IncrementalPackrat.KIND_CHAR, 'c', 0, 0), 1);
        c.due("compile", x.compile(), IncrementalPackrat.COMPILE_OK);
        Checks.append(x, "abc");
        c.due("rule 0 holds a", x.parse(0, 0), 1);
        c.due("rule 1 holds b c", x.parse(1, 1), 3);
    }

    /** The alternatives of two rules made in turns: each rule tries its own, oldest first. */
    private static void order(Checks c) {
        IncrementalPackrat x = new IncrementalPackrat(2, 8);
        x.newAlt(0);
        x.addItem(IncrementalPackrat.KIND_CHAR, 'a', 0, 0);
        x.newAlt(1);
        x.addItem(IncrementalPackrat.KIND_ANY, 0, 0, IncrementalPackrat.MODE_PLUS);
        x.newAlt(0);
        x.addItem(IncrementalPackrat.KIND_ANY, 0, 0, 0);
        x.addItem(IncrementalPackrat.KIND_ANY, 0, 0, 0);
        x.newAlt(1);
        x.compile();
        Checks.append(x, "abc");
        c.due("rule 0 at a: its first alternative", x.parse(0, 0), 1);
        c.due("rule 0 at b: its second alternative", x.parse(0, 1), 3);
        c.due("rule 1 at a", x.parse(1, 0), 3);
        c.due("rule 1 at the end: its empty alternative", x.parse(1, 3), 3);
    }

    private static void nothingElseChanges(Checks c) {
        IncrementalPackrat x = new IncrementalPackrat(1, 8);
        Checks.append(x, "text");
        String before = Checks.stateOf(x);
        x.newAlt(0);
        x.newAlt(5);
        c.due("state after newAlt", Checks.stateOf(x), before);
        x.compile();
        c.due("rule 0 succeeds on its empty alternative", x.parse(0, 2), 2);
        before = Checks.stateOf(x);
        c.due("newAlt when frozen", x.newAlt(0), -1);
        c.due("newAlt when frozen, bad rule", x.newAlt(1), -1);
        c.due("state after a refused newAlt", Checks.stateOf(x), before);
    }

    public static void main(String[] args) {
        Checks c = new Checks("NewAltTest");
        numbers(c);
        currentIsTheNewest(c);
        order(c);
        nothingElseChanges(c);
        c.end();
    }
}
