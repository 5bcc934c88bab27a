/** Promise 7: deleteRange. */
public final class DeleteRangeTest {
    private static final String FULL = "abcdefghij";

    private final Checks c = new Checks("DeleteRangeTest");
    private final RangeRefusals refusals = new RangeRefusals(c, "deleteRange", (x, pos, len) -> x.deleteRange(pos, len));

    private void deletes(String text, int pos, int len, String want) {
        Edits.done(c, "deleteRange(" + pos + ", " + len + ")", text, x -> x.deleteRange(pos, len), want);
    }

    private void removes() {
        c.sentence("deleteRange(pos, len) removes text[pos..pos+len-1]; later chars move down by len; n shrinks by len.");
        for (int pos = 0; pos < 4; pos++) {
            for (int len = 1; len <= 4 - pos; len++) {
                deletes("abcd", pos, len, "abcd".substring(0, pos) + "abcd".substring(pos + len));
            }
        }
        deletes("a", 0, 1, "");
        deletes(FULL, 0, 10, "");
        deletes(FULL, 0, 1, "bcdefghij");
        deletes(FULL, 9, 1, "abcdefghi");
        deletes(FULL, 2, 5, "abhij");
        IncrementalPackrat x = new IncrementalPackrat(1, 24);
        Checks.append(x, "abcdefghijklmnopqrstuvwx");
        c.due("from the greatest text", x.deleteRange(3, 20), true);
        c.due("what is left", Checks.textOf(x), "abcx");
    }

    private void refusedAtTheEnd() {
        c.sentence("In particular pos == n is always refused,");
        refusals.atTheEnd();
    }

    private void refusedOnTheEmptyText() {
        c.sentence("and so is any call on an empty text.");
        refusals.onTheEmptyText();
    }

    private void forgetsTheOutcome() {
        c.sentence("On success it answers true, sets F = -1 and K = 0, and changes nothing else.");
        for (int pos = 0; pos < 4; pos++) {
            int p = pos;
            Edits.forgets(c, "deleteRange(" + pos + ", 1)", "abca", x -> x.deleteRange(p, 1));
            deletes("abca", pos, 1, "abca".substring(0, pos) + "abca".substring(pos + 1));
        }
        Edits.forgets(c, "deleteRange(0, 4)", "abca", x -> x.deleteRange(0, 4));
    }

    private void inEitherPhase() {
        c.sentence("The phase does not affect it.");
        IncrementalPackrat x = Grammars.building(1, 8, "0 = a b");
        Checks.append(x, "xaxb");
        c.due("while building", x.deleteRange(0, 1), true);
        c.due("refused while building", x.deleteRange(3, 1), false);
        x.compile();
        c.due("refused when frozen", x.deleteRange(3, 1), false);
        c.due("when frozen", x.deleteRange(1, 1), true);
        c.due("parse", x.parse(0, 0), 2);
        c.due("after a parse", x.deleteRange(0, 2), true);
    }

    public static void main(String[] args) {
        DeleteRangeTest t = new DeleteRangeTest();
        RangeRefusals r = t.refusals;
        t.c.run(t::removes, r::positionBelow, r::lengthBelow, r::positionAbove, r::lengthAbove, t::refusedAtTheEnd,
            t::refusedOnTheEmptyText, t::forgetsTheOutcome, t::inEitherPhase);
    }
}
