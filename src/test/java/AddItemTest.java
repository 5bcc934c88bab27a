import java.util.function.Supplier;

/** Promise 3: addItem appends an item. */
public final class AddItemTest {
    private static final int LOW = Integer.MIN_VALUE;
    private static final int HIGH = Integer.MAX_VALUE;
    private static final int CHAR = IncrementalPackrat.KIND_CHAR;
    private static final int RANGE = IncrementalPackrat.KIND_RANGE;
    private static final int ANY = IncrementalPackrat.KIND_ANY;
    private static final int RULE = IncrementalPackrat.KIND_RULE;
    private static final int ONE = IncrementalPackrat.MODE_ONE;
    /** One good item of each kind. */
    private static final int[][] GOOD = {{CHAR, 'a', 0}, {RANGE, 'a', 'b'}, {ANY, 0, 0}, {RULE, 1, 0}};

    private final Checks c = new Checks("AddItemTest");

    private static String call(int kind, int a, int b, int mode) {
        return "addItem(" + kind + ", " + a + ", " + b + ", " + mode + ")";
    }

    /** Refused wherever it comes, without a trace; the scenes' last alternative has room left. */
    private void refused(int kind, int a, int b, int mode) {
        Traces.noneInAnyScene(c, call(kind, a, b, mode), "abca", x -> x.addItem(kind, a, b, mode), -1);
    }

    private void taken(int kind, int a, int b, int mode) {
        IncrementalPackrat x = new IncrementalPackrat(Scenes.RULES, 8);
        x.newAlt(0);
        c.due(call(kind, a, b, mode), x.addItem(kind, a, b, mode), 0);
    }

    private void appends() {
        c.sentence("addItem(kind, a, b, mode) appends an item with base kind (arguments a, b) and the given mode at the"
            + " end of the current alternative.");
        IncrementalPackrat x = Grammars.building(2, 10, "0 = x", "1 = a");
        x.addItem(RANGE, '0', '9', IncrementalPackrat.MODE_STAR);
        x.addItem(RULE, 0, 0, IncrementalPackrat.MODE_OPT);
        x.addItem(ANY, 0, 0, IncrementalPackrat.MODE_NOT);
        x.compile();
        Checks.append(x, "a12x");
        c.due("rule 1 is a 0-9* #0? !.", x.parse(1, 0), 4);
        c.due("its tree", Checks.treeOf(x), "2 1:0-4^-1 0:3-4^0");
        x.deleteRange(3, 1);
        c.due("without the third item's match", x.parse(1, 0), 3);
        x.deleteRange(1, 2);
        c.due("without the second item's match", x.parse(1, 0), 1);
        x.insertChar(1, 'y');
        c.due("against the fourth item", x.parse(1, 0), IncrementalPackrat.PARSE_FAIL);
        c.due("rule 0 got none of them", x.parse(0, 0), IncrementalPackrat.PARSE_FAIL);
    }

    private void severalConditions() {
        c.sentence("The conditions are applied in this order, each answering -1:");
        int[][] bad = {{4, -1, 0, 6}, {-1, 65536, 0, -1}, {CHAR, -1, 0, 6}, {RANGE, 5, 4, 6}, {RULE, Scenes.RULES, 0, -1},
            {LOW, LOW, LOW, LOW}, {HIGH, HIGH, HIGH, HIGH}};
        Supplier<IncrementalPackrat> full = () -> Grammars.building(Scenes.RULES, 8, "0 = a b c d");
        for (int[] row : bad) {
            refused(row[0], row[1], row[2], row[3]);
            String name = call(row[0], row[1], row[2], row[3]);
            Traces.none(c, name + " at start", () -> new IncrementalPackrat(2, 8),
                x -> x.addItem(row[0], row[1], row[2], row[3]), -1);
            Traces.none(c, name + " as the fifth", full, x -> x.addItem(row[0], row[1], row[2], row[3]), -1);
        }
        Supplier<IncrementalPackrat> none = () -> Grammars.compiled(1, 8);
        Traces.none(c, "addItem when frozen without any alternative", none, x -> x.addItem(ANY, 0, 0, ONE), -1);
    }

    private void refusedWhenFrozen() {
        c.sentence("each answering -1: 1. the phase is FROZEN;");
        for (int[] good : GOOD) {
            for (int mode = 0; mode < 6; mode++) {
                int m = mode;
                for (int scene : Scenes.FROZEN_ONES) {
                    Traces.none(c, call(good[0], good[1], good[2], mode) + " " + Scenes.name(scene),
                        () -> Scenes.make(scene, "abca"), x -> x.addItem(good[0], good[1], good[2], m), -1);
                }
            }
        }
        Supplier<IncrementalPackrat> empty = () -> Grammars.compiled(1, 8, "0 =");
        Traces.none(c, "addItem to an empty alternative when frozen", empty, x -> x.addItem(ANY, 0, 0, ONE), -1);
    }

    private void refusedWithoutAlternative() {
        c.sentence("each answering -1: 2. no alternative has been created yet;");
        Supplier<IncrementalPackrat> start = () -> new IncrementalPackrat(2, 8);
        Supplier<IncrementalPackrat> refusedOne = () -> {
            IncrementalPackrat x = new IncrementalPackrat(2, 8);
            x.newAlt(2);
            Checks.append(x, "ab");
            return x;
        };
        for (int[] good : GOOD) {
            String name = call(good[0], good[1], good[2], ONE);
            Traces.none(c, name + " at start", start, x -> x.addItem(good[0], good[1], good[2], ONE), -1);
            Traces.none(c, name + " after a refused newAlt", refusedOne,
                x -> x.addItem(good[0], good[1], good[2], ONE), -1);
        }
        IncrementalPackrat x = start.get();
        x.addItem(ANY, 0, 0, ONE);
        x.newAlt(0);
        c.due("the first item after the first newAlt", x.addItem(ANY, 0, 0, ONE), 0);
    }

    private void kinds() {
        c.sentence("each answering -1: 3. kind is not in 0..3;");
        for (int kind : Numbers.outside(0, 3)) {
            refused(kind, 0, 0, ONE);
        }
        for (int kind = 0; kind <= 3; kind++) {
            taken(kind, 0, 0, ONE);
        }
    }

    private void modes() {
        c.sentence("each answering -1: 4. mode is not in 0..5;");
        for (int mode : Numbers.outside(0, 5)) {
            for (int[] good : GOOD) {
                refused(good[0], good[1], good[2], mode);
            }
        }
        for (int mode = 0; mode <= 5; mode++) {
            for (int[] good : GOOD) {
                taken(good[0], good[1], good[2], mode);
            }
        }
    }

    private void chars() {
        c.sentence("each answering -1: 5. kind is KIND_CHAR and a is not in 0..65535 (b is ignored);");
        for (int a : Numbers.outside(0, 65535)) {
            refused(CHAR, a, 0, ONE);
            refused(CHAR, a, a, ONE);
        }
        refused(CHAR, 65536 + 'a', 'a', ONE);
        for (int b : new int[] {LOW, -1, 0, 'a', 65535, 65536, HIGH}) {
            taken(CHAR, 0, b, ONE);
            taken(CHAR, 'a', b, ONE);
            taken(CHAR, 65535, b, ONE);
            c.due("char 97, b = " + b, Grammars.matched(CHAR, 97, b), "nnynnnnn");
            c.due("char 0, b = " + b, Grammars.matched(CHAR, 0, b), "ynnnnnnn");
            c.due("char 65535, b = " + b, Grammars.matched(CHAR, 65535, b), "nnnnnnyn");
        }
    }

    private void ranges() {
        c.sentence("each answering -1: 6. kind is KIND_RANGE and it is not the case that 0 <= a <= b <= 65535"
            + " (that is, a < 0, a > b, or b > 65535);");
        for (int a : Numbers.below(0)) {
            refused(RANGE, a, 5, ONE);
            refused(RANGE, a, 65535, ONE);
            refused(RANGE, a, a, ONE);
        }
        for (int b : Numbers.above(65535)) {
            refused(RANGE, 0, b, ONE);
            refused(RANGE, 65535, b, ONE);
            refused(RANGE, b, b, ONE);
        }
        int[][] crossed = {{1, 0}, {6, 5}, {65535, 65534}, {65535, 0}, {0, -1}, {0, LOW}, {HIGH, LOW}, {LOW, HIGH},
            {65536, 65535}, {HIGH, 5}};
        for (int[] row : crossed) {
            refused(RANGE, row[0], row[1], ONE);
        }
        int[][] good = {{0, 0}, {0, 1}, {5, 5}, {5, 6}, {0, 65535}, {65534, 65535}, {65535, 65535}};
        for (int[] row : good) {
            taken(RANGE, row[0], row[1], ONE);
        }
    }

    private void rules() {
        c.sentence("each answering -1: 7. kind is KIND_RULE and (a < 0 or a >= R) (b is ignored);");
        for (int a : Numbers.outside(0, Scenes.RULES - 1)) {
            refused(RULE, a, 0, ONE);
            refused(RULE, a, 1, IncrementalPackrat.MODE_NOT);
        }
        for (int rules = 1; rules <= 8; rules++) {
            for (int b : new int[] {LOW, -1, 8, 65536, HIGH}) {
                IncrementalPackrat x = new IncrementalPackrat(rules, 8);
                x.newAlt(0);
                c.due("rule " + rules + " of " + rules, x.addItem(RULE, rules, b, ONE), -1);
                c.due("rule -1 of " + rules, x.addItem(RULE, -1, b, ONE), -1);
                c.due("the last rule of " + rules, x.addItem(RULE, rules - 1, b, ONE), 0);
                c.due("the first rule of " + rules, x.addItem(RULE, 0, b, ONE), 1);
            }
        }
        IncrementalPackrat x = new IncrementalPackrat(3, 8);
        x.newAlt(0);
        x.addItem(RULE, 2, 1, ONE);
        Grammars.add(x, "1 = a", "2 = b");
        x.compile();
        Checks.append(x, "ab");
        c.due("b names no rule", x.parse(0, 0), IncrementalPackrat.PARSE_FAIL);
        c.due("a does", x.parse(0, 1), 2);
    }

    private void fourItems() {
        c.sentence("each answering -1: 8. the current alternative already holds 4 items.");
        for (int[] good : GOOD) {
            IncrementalPackrat x = new IncrementalPackrat(Scenes.RULES, 8);
            x.newAlt(0);
            for (int i = 0; i < 4; i++) {
                x.addItem(good[0], good[1], good[2], ONE);
            }
            c.due("a fifth item", x.addItem(good[0], good[1], good[2], ONE), -1);
            c.due("and again", x.addItem(good[0], good[1], good[2], ONE), -1);
            x.newAlt(0);
            c.due("an item of the next alternative", x.addItem(good[0], good[1], good[2], ONE), 0);
        }
        Supplier<IncrementalPackrat> full = () -> {
            IncrementalPackrat x = Grammars.building(Scenes.RULES, 8, "1 = e", "0 = a b c d");
            Checks.append(x, "abcabcd");
            return x;
        };
        for (int[] good : GOOD) {
            Traces.none(c, call(good[0], good[1], good[2], ONE) + " as the fifth", full,
                x -> x.addItem(good[0], good[1], good[2], ONE), -1);
        }
        IncrementalPackrat last = new IncrementalPackrat(8, 8);
        for (int i = 0; i < 16; i++) {
            last.newAlt(7);
        }
        for (int i = 0; i < 4; i++) {
            c.due("item " + i + " of the last alternative", last.addItem(ANY, 0, 0, ONE), i);
        }
        c.due("a fifth item of the last alternative", last.addItem(ANY, 0, 0, ONE), -1);
    }

    private void anyIgnoresBoth() {
        c.sentence("KIND_ANY ignores a and b.");
        int[] odd = {LOW, -1, 0, 97, 65535, 65536, HIGH};
        for (int a : odd) {
            for (int b : odd) {
                taken(ANY, a, b, ONE);
                c.due("any, a = " + a + ", b = " + b, Grammars.matched(ANY, a, b), "yyyyyyyn");
            }
        }
    }

    private void answersTheIndex() {
        c.sentence("Otherwise the answer is the item's index within its alternative (0..3).");
        IncrementalPackrat x = new IncrementalPackrat(3, 8);
        for (int size = 0; size <= 4; size++) {
            x.newAlt(size % 3);
            for (int i = 0; i < size; i++) {
                c.due("a refused one before item " + i, x.addItem(CHAR, -1, 0, ONE), -1);
                c.due("item " + i + " of " + size, x.addItem(i, 1, 2, ONE + i), i);
            }
        }
    }

    private void refusalChangesNothing() {
        c.sentence("On -1 nothing changes.");
        IncrementalPackrat x = new IncrementalPackrat(2, 8);
        x.newAlt(1);
        x.addItem(CHAR, 'z', 0, ONE);
        x.newAlt(0);
        x.addItem(CHAR, 'a', 0, ONE);
        x.addItem(CHAR, 'b', 0, 6);
        x.addItem(4, 'b', 0, ONE);
        x.addItem(CHAR, 65536, 0, ONE);
        x.addItem(RANGE, 'c', 'b', ONE);
        x.addItem(RULE, 2, 0, ONE);
        c.due("the second item after refused ones", x.addItem(CHAR, 'b', 0, ONE), 1);
        x.addItem(CHAR, 'c', 0, ONE);
        x.addItem(CHAR, 'd', 0, ONE);
        x.addItem(CHAR, 'x', 0, ONE);
        Checks.append(x, "abcdxz");
        c.due("compile", x.compile(), IncrementalPackrat.COMPILE_OK);
        c.due("rule 0 is a b c d", x.parse(0, 0), 4);
        c.due("its furthest", x.furthest(), 3);
        c.due("rule 1 is z", x.parse(1, 5), 6);
    }

    private void successChangesNothingElse() {
        c.sentence("A successful call changes only the current alternative's item list; the phase, the text, F and K"
            + " are unchanged.");
        IncrementalPackrat x = Scenes.make(Scenes.BUILDING, "abca");
        String before = Checks.stateOf(x);
        c.due("isCompiled after building", x.isCompiled(), false);
        c.due("the text after building", Checks.textOf(x), "abca");
        c.due("furthest after building", x.furthest(), -1);
        c.due("nodeCount after building", x.nodeCount(), 0);
        for (int i = 1; i < 4; i++) {
            c.due("item " + i, x.addItem(ANY, 0, 0, IncrementalPackrat.MODE_AND), i);
            c.due("state after it", Checks.stateOf(x), before);
        }
        c.due("the next alternative", x.newAlt(0), Scenes.GRAMMAR.length);
        c.due("compile", x.compile(), IncrementalPackrat.COMPILE_OK);
        c.due("rule 1 is as it was", x.parse(1, 0), 1);
        c.due("rule 2 is as it was", x.parse(2, 1), 3);
        c.due("rule 3 has the items", x.parse(3, 3), IncrementalPackrat.PARSE_FAIL);
    }

    private void anyRuleMayBeNamed() {
        c.sentence("A KIND_RULE item may name any rule 0..R-1, including the rule owning the alternative and rules"
            + " without alternatives.");
        for (int owner = 0; owner < 8; owner++) {
            for (int named = 0; named < 8; named++) {
                IncrementalPackrat x = new IncrementalPackrat(8, 8);
                x.newAlt(owner);
                c.due("rule " + owner + " names " + named, x.addItem(RULE, named, 0, ONE), 0);
            }
        }
        IncrementalPackrat own = Grammars.compiled(1, 8, "0 = a #0", "0 = b");
        Checks.append(own, "aab");
        c.due("a rule that names itself", own.parse(0, 0), 3);
        IncrementalPackrat none = Grammars.compiled(2, 8, "0 = #1", "0 = a");
        Checks.append(none, "a");
        c.due("a rule that names one without alternatives", none.parse(0, 0), 1);
    }

    public static void main(String[] args) {
        AddItemTest t = new AddItemTest();
        t.c.run(t::appends, t::severalConditions, t::refusedWhenFrozen, t::refusedWithoutAlternative, t::kinds,
            t::modes, t::chars, t::ranges, t::rules, t::fourItems, t::anyIgnoresBoth, t::answersTheIndex,
            t::refusalChangesNothing, t::successChangesNothingElse, t::anyRuleMayBeNamed);
    }
}
