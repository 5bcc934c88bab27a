/** Promise 6: insertChar. */
public final class InsertCharTest {
    private static final String FULL = "abcabcabca";

    private final Checks c = new Checks("InsertCharTest");

    private void inserts(String text, int pos, String want) {
        Edits.done(c, "insertChar(" + pos + ", z)", text, x -> x.insertChar(pos, 'z'), want);
    }

    private void refused(String text, int pos) {
        Edits.refused(c, "insertChar(" + pos + ", z)", text, x -> x.insertChar(pos, 'z'));
    }

    private void insertsBefore() {
        c.sentence("insertChar(pos, c) inserts c before text[pos] (pos == n appends); chars from pos on move up by one;"
            + " n grows by one.");
        inserts("", 0, "z");
        inserts("a", 0, "za");
        inserts("a", 1, "az");
        inserts("abcd", 0, "zabcd");
        inserts("abcd", 1, "azbcd");
        inserts("abcd", 3, "abczd");
        inserts("abcd", 4, "abcdz");
        IncrementalPackrat x = new IncrementalPackrat(1, 8);
        x.insertChar(0, (char) 65535);
        x.insertChar(1, (char) 0);
        x.insertChar(0, (char) 32768);
        c.due("the first char", x.charAt(0), 32768);
        c.due("the greatest char", x.charAt(1), 65535);
        c.due("the least char", x.charAt(2), 0);
    }

    private void refusedBelow() {
        c.sentence("It is refused, answering false, if pos < 0");
        for (int pos : Numbers.below(0)) {
            refused("abca", pos);
            refused("", pos);
        }
    }

    private void refusedAbove() {
        c.sentence("It is refused, answering false, if pos > n");
        for (int pos : Numbers.above(4)) {
            refused("abca", pos);
        }
        for (int pos : Numbers.above(0)) {
            refused("", pos);
        }
        // Within the capacity, but behind the text.
        refused("abca", Scenes.CAPACITY - 1);
        refused("abca", Scenes.CAPACITY);
    }

    private void refusedWhenFull() {
        c.sentence("It is refused, answering false, if n == T; then nothing changes.");
        for (int pos = -1; pos <= Scenes.CAPACITY + 1; pos++) {
            refused(FULL, pos);
        }
        inserts("abcabcabc", 9, "abcabcabcz");
        inserts("abcabcabc", 0, "zabcabcabc");
        for (int capacity = 8; capacity <= 24; capacity++) {
            IncrementalPackrat x = new IncrementalPackrat(1, capacity);
            for (int i = 0; i < capacity; i++) {
                c.due("char " + i + " of " + capacity, x.insertChar(i / 2, (char) ('a' + i)), true);
            }
            String before = Checks.stateOf(x);
            for (int pos = -1; pos <= capacity + 1; pos++) {
                c.due("one more than " + capacity + " at " + pos, x.insertChar(pos, 'z'), false);
            }
            c.due("the full text of " + capacity, Checks.stateOf(x), before);
            c.due("room is made", x.deleteRange(capacity - 1, 1), true);
            c.due("and used", x.insertChar(0, 'z'), true);
            c.due("and full again", x.insertChar(0, 'z'), false);
        }
    }

    private void inEitherPhase() {
        c.sentence("It is allowed in either phase.");
        IncrementalPackrat x = Grammars.building(1, 8, "0 = a b");
        c.due("while building", x.insertChar(0, 'a'), true);
        x.compile();
        c.due("when frozen", x.insertChar(1, 'b'), true);
        c.due("parse of both", x.parse(0, 0), 2);
        c.due("after a parse", x.insertChar(2, 'c'), true);
    }

    private void forgetsTheOutcome() {
        c.sentence("On success it answers true, sets F = -1 and K = 0, and changes nothing else (the grammar and phase"
            + " are untouched).");
        for (int pos = 0; pos <= 4; pos++) {
            int p = pos;
            Edits.forgets(c, "insertChar(" + pos + ", b)", "abca", x -> x.insertChar(p, 'b'));
            inserts("abca", pos, "abca".substring(0, pos) + "z" + "abca".substring(pos));
        }
        Edits.forgets(c, "insertChar(0, a)", "", x -> x.insertChar(0, 'a'));
    }

    public static void main(String[] args) {
        InsertCharTest t = new InsertCharTest();
        t.c.run(t::insertsBefore, t::refusedBelow, t::refusedAbove, t::refusedWhenFull, t::inEitherPhase,
            t::forgetsTheOutcome);
    }
}
