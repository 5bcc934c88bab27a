/** What deleteRange and replaceRange refuse, which the document says of both in the same words. */
final class RangeRefusals {
    /** deleteRange, or replaceRange with some char. */
    interface RangeEdit {
        boolean on(IncrementalPackrat x, int pos, int len);
    }

    private static final String TEXT = "abca";
    private static final String FULL = "abcabcabca";
    private static final int HIGH = Integer.MAX_VALUE;
    private static final int LOW = Integer.MIN_VALUE;

    private final Checks c;
    private final String name;
    private final RangeEdit edit;

    RangeRefusals(Checks c, String name, RangeEdit edit) {
        this.c = c;
        this.name = name;
        this.edit = edit;
    }

    private void refused(String text, int pos, int len) {
        Edits.refused(c, name + "(" + pos + ", " + len + ")", text, x -> edit.on(x, pos, len));
    }

    void positionBelow() {
        c.sentence("It is refused, answering false, if pos < 0");
        for (int pos : Numbers.below(0)) {
            // With this length the range ends inside the text, or would by a wrap-around.
            refused(TEXT, pos, 2 - pos);
            refused(TEXT, pos, 1);
            refused("", pos, 1);
        }
        refused(TEXT, -1, 2);
        refused(TEXT, LOW, HIGH);
    }

    void lengthBelow() {
        c.sentence("It is refused, answering false, if len < 1");
        for (int len : Numbers.below(1)) {
            for (int pos = 0; pos <= TEXT.length(); pos += 2) {
                refused(TEXT, pos, len);
            }
            refused(FULL, FULL.length(), len);
        }
        refused(TEXT, 4, -4);
        refused(TEXT, HIGH, LOW);
    }

    void positionAbove() {
        c.sentence("It is refused, answering false, if pos > n");
        for (int pos : Numbers.above(TEXT.length())) {
            refused(TEXT, pos, 1);
            // With this length the range ends at the text's end.
            refused(TEXT, pos, TEXT.length() - pos);
            refused(TEXT, pos, HIGH);
        }
        refused(TEXT, Scenes.CAPACITY - 1, 1);
        refused(FULL, Scenes.CAPACITY + 1, 1);
    }

    void lengthAbove() {
        c.sentence("It is refused, answering false, if len > n - pos; then nothing changes.");
        for (int pos = 0; pos <= TEXT.length(); pos++) {
            for (int len : Numbers.above(TEXT.length() - pos)) {
                refused(TEXT, pos, len);
            }
            // pos + len wraps around to 0 and to the least int.
            refused(TEXT, pos, HIGH - pos + 1);
            refused(TEXT, pos, HIGH - pos);
        }
        refused(FULL, 0, 11);
        refused(FULL, 9, 2);
        refused(FULL, 1, 10);
    }

    void atTheEnd() {
        String[] texts = {"", "a", TEXT, FULL};
        for (String text : texts) {
            for (int len : new int[] {LOW, -1, 0, 1, 2, HIGH}) {
                refused(text, text.length(), len);
            }
        }
    }

    void onTheEmptyText() {
        int[] numbers = {LOW, -1, 0, 1, 2, HIGH};
        for (int pos : numbers) {
            for (int len : numbers) {
                refused("", pos, len);
            }
        }
        Traces.none(c, name + "(0, 1) at start", () -> new IncrementalPackrat(1, 8), x -> edit.on(x, 0, 1), false);
        Traces.none(c, name + "(0, 1) when all is deleted", RangeRefusals::emptied, x -> edit.on(x, 0, 1), false);
    }

    private static IncrementalPackrat emptied() {
        IncrementalPackrat x = Scenes.make(Scenes.FROZEN, TEXT);
        x.deleteRange(0, TEXT.length());
        return x;
    }
}
