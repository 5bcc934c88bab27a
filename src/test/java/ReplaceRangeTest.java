/** Promise 8: replaceRange. */
public final class ReplaceRangeTest {
    private static final String FULL = "abcdefghij";

    private final Checks c = new Checks("ReplaceRangeTest");
    private final RangeRefusals refusals = new RangeRefusals(c, "replaceRange",
        (x, pos, len) -> x.replaceRange(pos, len, 'z'));

    private void replaces(String text, int pos, int len, char ch, String want) {
        String call = "replaceRange(" + pos + ", " + len + ", " + ch + ")";
        Edits.done(c, call, text, x -> x.replaceRange(pos, len, ch), want);
    }

    private void replacesByOne() {
        c.sentence("replaceRange(pos, len, c) replaces text[pos..pos+len-1] by the single char c; later chars move down"
            + " by len-1; n shrinks by len-1");
        for (int pos = 0; pos < 4; pos++) {
            for (int len = 1; len <= 4 - pos; len++) {
                replaces("abcd", pos, len, 'z', "abcd".substring(0, pos) + "z" + "abcd".substring(pos + len));
            }
        }
        replaces(FULL, 0, 10, 'z', "z");
        replaces(FULL, 0, 2, 'z', "zcdefghij");
        replaces(FULL, 8, 2, 'z', "abcdefghz");
        replaces(FULL, 3, 4, 'z', "abczhij");
    }

    private void replacesOneChar() {
        c.sentence("(with len = 1, n stays the same and only text[pos] becomes c).");
        replaces("a", 0, 1, 'z', "z");
        replaces(FULL, 0, 1, 'z', "zbcdefghij");
        replaces(FULL, 4, 1, 'z', "abcdzfghij");
        replaces(FULL, 9, 1, 'z', "abcdefghiz");
        IncrementalPackrat x = new IncrementalPackrat(1, 24);
        Checks.append(x, "abcdefghijklmnopqrstuvwx");
        c.due("in the greatest text", x.replaceRange(23, 1, (char) 65535), true);
        c.due("its length", x.textLength(), 24);
        c.due("its last char", x.charAt(23), 65535);
        c.due("the char before", x.charAt(22), 'w');
        c.due("by the least char", x.replaceRange(0, 1, (char) 0), true);
        c.due("its first char", x.charAt(0), 0);
        c.due("the char behind", x.charAt(1), 'b');
    }

    /** The document says so of deleteRange; of replaceRange it follows from the same conditions. */
    private void refusedAtTheEnd() {
        c.sentence("It is refused, answering false, if [..] len < 1, pos > n, or len > n - pos; then nothing changes.");
        refusals.atTheEnd();
        refusals.onTheEmptyText();
    }

    private void forgetsTheOutcome() {
        c.sentence("On success it answers true, sets F = -1 and K = 0");
        for (int pos = 0; pos < 4; pos++) {
            int p = pos;
            Edits.forgets(c, "replaceRange(" + pos + ", 1, z)", "abca", x -> x.replaceRange(p, 1, 'z'));
        }
        Edits.forgets(c, "replaceRange(0, 4, z)", "abca", x -> x.replaceRange(0, 4, 'z'));
    }

    private void bySameText() {
        c.sentence("(also when the new text equals the old), and changes nothing else.");
        for (int pos = 0; pos < 4; pos++) {
            int p = pos;
            char same = "abca".charAt(pos);
            Edits.forgets(c, "replaceRange(" + pos + ", 1, " + same + ")", "abca", x -> x.replaceRange(p, 1, same));
            replaces("abca", pos, 1, same, "abca");
        }
    }

    private void inEitherPhase() {
        c.sentence("The phase does not affect it.");
        IncrementalPackrat x = Grammars.building(1, 8, "0 = a b");
        Checks.append(x, "xxx");
        c.due("while building", x.replaceRange(0, 2, 'a'), true);
        c.due("refused while building", x.replaceRange(2, 1, 'b'), false);
        x.compile();
        c.due("refused when frozen", x.replaceRange(2, 1, 'b'), false);
        c.due("when frozen", x.replaceRange(1, 1, 'b'), true);
        c.due("parse", x.parse(0, 0), 2);
        c.due("after a parse", x.replaceRange(0, 2, 'a'), true);
        c.due("text", Checks.textOf(x), "a");
    }

    public static void main(String[] args) {
        ReplaceRangeTest t = new ReplaceRangeTest();
        RangeRefusals r = t.refusals;
        t.c.run(t::replacesByOne, t::replacesOneChar, r::positionBelow, r::lengthBelow, r::positionAbove, r::lengthAbove,
            t::refusedAtTheEnd, t::forgetsTheOutcome, t::bySameText, t::inEitherPhase);
    }
}
