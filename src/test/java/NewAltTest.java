/** Promise 2: newAlt creates an alternative. */
public final class NewAltTest {
    private static final int CHAR = IncrementalPackrat.KIND_CHAR;
    private static final int ONE = IncrementalPackrat.MODE_ONE;

    private final Checks c = new Checks("NewAltTest");

    private void emptyAndLast() {
        c.sentence("newAlt(r) creates an empty alternative appended last to rule r's alternatives;");
        IncrementalPackrat x = Grammars.compiled(2, 8, "0 = a", "1 = .+", "0 = . .", "1 =", "0 = c");
        Checks.append(x, "abc");
        c.due("rule 0 at a: its first alternative, not the longer second", x.parse(0, 0), 1);
        c.due("rule 0 at b: its second alternative", x.parse(0, 1), 3);
        c.due("rule 0 at c: its third alternative", x.parse(0, 2), 3);
        c.due("rule 0 at the end: none", x.parse(0, 3), IncrementalPackrat.PARSE_FAIL);
        c.due("rule 1 at a: its first alternative", x.parse(1, 0), 3);
        c.due("rule 1 at the end: its empty one", x.parse(1, 3), 3);
        IncrementalPackrat y = Grammars.building(1, 8, "0 = a b c d");
        y.newAlt(0);
        y.compile();
        c.due("an alternative behind a full one is empty", y.parse(0, 0), 0);
    }

    private void becomesCurrent() {
        c.sentence("it becomes the current alternative.");
        IncrementalPackrat x = Grammars.building(2, 8, "0 = a");
        x.newAlt(1);
        c.due("first item of the second alternative", x.addItem(CHAR, 'b', 0, ONE), 0);
        x.newAlt(0);
        c.due("first item of the third, of an older rule", x.addItem(CHAR, 'c', 0, ONE), 0);
        c.due("its second item", x.addItem(CHAR, 'd', 0, ONE), 1);
        x.compile();
        Checks.append(x, "abcd");
        c.due("rule 0 at a", x.parse(0, 0), 1);
        c.due("rule 0 at b", x.parse(0, 1), IncrementalPackrat.PARSE_FAIL);
        c.due("rule 0 at c d", x.parse(0, 2), 4);
        c.due("rule 1 at b", x.parse(1, 1), 2);
    }

    private void refusedWhenFrozen() {
        c.sentence("each answering -1: 1. the phase is FROZEN;");
        for (int r = -1; r <= Scenes.RULES; r++) {
            int rule = r;
            for (int scene : Scenes.FROZEN_ONES) {
                Traces.none(c, "newAlt(" + r + ") " + Scenes.name(scene), () -> Scenes.make(scene, "abca"),
                    x -> x.newAlt(rule), -1);
            }
        }
        Traces.none(c, "newAlt(0) when frozen without any alternative", () -> Grammars.compiled(1, 8),
            x -> x.newAlt(0), -1);
    }

    private void refusedOutsideTheRules() {
        c.sentence("each answering -1: 2. r < 0 or r >= R;");
        for (int rules = 1; rules <= 8; rules++) {
            for (int r : Numbers.outside(0, rules - 1)) {
                IncrementalPackrat x = new IncrementalPackrat(rules, 8);
                c.due("newAlt(" + r + ") of " + rules + " rules", x.newAlt(r), -1);
                c.due("the next one is the first", x.newAlt(rules - 1), 0);
            }
            c.due("newAlt(0) of " + rules + " rules", new IncrementalPackrat(rules, 8).newAlt(0), 0);
        }
    }

    /** How many alternatives fit if they go to the rules first..last in turns. */
    private static int room(int first, int last) {
        IncrementalPackrat x = new IncrementalPackrat(8, 8);
        int count = 0;
        while (count < 100 && x.newAlt(first + count % (last - first + 1)) == count) {
            count++;
        }
        return count;
    }

    private void refusedAboveSixteen() {
        c.sentence("each answering -1: 3. 16 alternatives already exist (counting all rules together).");
        for (int last = 0; last < 8; last++) {
            c.due("room in the rules 0 to " + last, room(0, last), 16);
            c.due("room in rule " + last, room(last, last), 16);
        }
        IncrementalPackrat x = full();
        for (int r = -1; r <= 3; r++) {
            c.due("the seventeenth, for rule " + r, x.newAlt(r), -1);
        }
    }

    /** Sixteen alternatives, the last one with one item. */
    private static IncrementalPackrat full() {
        IncrementalPackrat x = new IncrementalPackrat(3, 8);
        for (int i = 0; i < 16; i++) {
            x.newAlt(i % 3);
            x.addItem(CHAR, 'a' + i, 0, ONE);
        }
        Checks.append(x, "abcpon");
        return x;
    }

    private void severalConditions() {
        c.sentence("The conditions are applied in this order, each answering -1:");
        for (int r : Numbers.outside(0, 2)) {
            Traces.none(c, "newAlt(" + r + ") as the seventeenth", NewAltTest::full, x -> x.newAlt(r), -1);
            Traces.none(c, "newAlt(" + r + ") as the seventeenth when frozen", NewAltTest::fullAndFrozen,
                x -> x.newAlt(r), -1);
        }
        Traces.none(c, "newAlt(0) as the seventeenth when frozen", NewAltTest::fullAndFrozen, x -> x.newAlt(0), -1);
    }

    private static IncrementalPackrat fullAndFrozen() {
        IncrementalPackrat x = full();
        x.compile();
        x.parse(0, 0);
        return x;
    }

    private void answersTheCount() {
        c.sentence("Otherwise the answer is the new alternative's number: the count of alternatives created"
            + " before it (0..15).");
        IncrementalPackrat x = new IncrementalPackrat(3, 8);
        for (int i = 0; i < 16; i++) {
            c.due("a refused one before " + i, x.newAlt(i % 2 == 0 ? -1 : 3), -1);
            c.due("alternative " + i, x.newAlt(i * 2 % 3), i);
            x.addItem(CHAR, 'a', 0, ONE);
            x.addItem(CHAR, 'a', 0, ONE);
        }
    }

    private void refusalChangesNothing() {
        c.sentence("On -1 nothing changes.");
        for (int r : Numbers.outside(0, Scenes.RULES - 1)) {
            Traces.noneInAnyScene(c, "newAlt(" + r + ")", "abca", x -> x.newAlt(r), -1);
        }
        for (int r = -1; r <= 3; r++) {
            int rule = r;
            Traces.none(c, "newAlt(" + r + ") as the seventeenth", NewAltTest::full, x -> x.newAlt(rule), -1);
        }
        Traces.none(c, "newAlt(-1) at start", () -> new IncrementalPackrat(2, 8), x -> x.newAlt(-1), -1);
        Traces.none(c, "newAlt(2) at start", () -> new IncrementalPackrat(2, 8), x -> x.newAlt(2), -1);
    }

    private void successChangesNothingElse() {
        c.sentence("A successful call changes only the set of alternatives and which one is current; the phase, the"
            + " text, F and K are unchanged.");
        IncrementalPackrat x = Scenes.make(Scenes.BUILDING, "abca");
        String before = Checks.stateOf(x);
        c.due("isCompiled after building", x.isCompiled(), false);
        c.due("the text after building", Checks.textOf(x), "abca");
        c.due("furthest after building", x.furthest(), -1);
        c.due("nodeCount after building", x.nodeCount(), 0);
        for (int i = Scenes.GRAMMAR.length; i < 16; i++) {
            c.due("alternative " + i, x.newAlt(i % Scenes.RULES), i);
            c.due("state after it", Checks.stateOf(x), before);
        }
        x.compile();
        c.due("the older alternatives are as they were", x.parse(0, 0), 4);
        c.due("and come first", Checks.treeOf(x), "4 0:0-4^-1 1:0-1^0 2:1-3^0 3:3-4^0");
    }

    public static void main(String[] args) {
        NewAltTest t = new NewAltTest();
        t.c.run(t::emptyAndLast, t::becomesCurrent, t::refusedWhenFrozen, t::refusedOutsideTheRules,
            t::refusedAboveSixteen, t::severalConditions, t::answersTheCount, t::refusalChangesNothing,
            t::successChangesNothingElse);
    }
}
