/** Promise 9: textLength. Promise 10: charAt. */
public final class ReadTextTest {
    private final Checks c = new Checks("ReadTextTest");

    private void lengths() {
        c.sentence("textLength() answers n, a value in 0..T.");
        for (int capacity = 8; capacity <= 24; capacity++) {
            IncrementalPackrat x = new IncrementalPackrat(1, capacity);
            c.due("at start", x.textLength(), 0);
            length(x, "a refused insert", x.insertChar(1, 'a'), false, 0);
            length(x, "a refused delete", x.deleteRange(0, 1), false, 0);
            for (int n = 1; n <= capacity; n++) {
                length(x, "insert " + n, x.insertChar(0, 'a'), true, n);
            }
            length(x, "an insert into the full text", x.insertChar(0, 'a'), false, capacity);
            length(x, "a replace of one", x.replaceRange(0, 1, 'b'), true, capacity);
            length(x, "a delete of one", x.deleteRange(0, 1), true, capacity - 1);
            length(x, "a refused delete", x.deleteRange(0, capacity), false, capacity - 1);
            length(x, "a replace of three", x.replaceRange(1, 3, 'b'), true, capacity - 3);
            length(x, "a delete of all", x.deleteRange(0, capacity - 3), true, 0);
        }
    }

    private void length(IncrementalPackrat x, String edit, boolean answer, boolean wantAnswer, int wantLength) {
        c.due(edit, answer, wantAnswer);
        c.due("textLength after " + edit, x.textLength(), wantLength);
    }

    private void lengthChangesNothing() {
        c.sentence("textLength() [..] changes nothing.");
        Traces.noneInAnyScene(c, "textLength()", "abca", x -> x.textLength(), 4);
        Traces.noneInAnyScene(c, "textLength()", "", x -> x.textLength(), 0);
    }

    private void charValues() {
        c.sentence("charAt(i) answers text[i] as a value in 0..65535");
        IncrementalPackrat x = new IncrementalPackrat(1, 24);
        int[] chars = {0, 1, 127, 128, 255, 256, 32767, 32768, 55296, 57343, 65534, 65535};
        for (int i = 0; i < chars.length; i++) {
            x.insertChar(i, (char) chars[i]);
        }
        for (int i = 0; i < chars.length; i++) {
            c.due("charAt(" + i + ")", x.charAt(i), chars[i]);
        }
        while (x.textLength() < 24) {
            x.insertChar(0, (char) 65535);
        }
        c.due("the first of the greatest text", x.charAt(0), 65535);
        c.due("the last of the greatest text", x.charAt(23), 65535);
    }

    private void outsideTheText() {
        c.sentence("or -1 if i < 0 or i >= n.");
        for (int n = 0; n <= 24; n++) {
            IncrementalPackrat x = new IncrementalPackrat(1, 24);
            Checks.append(x, "abcdefghijklmnopqrstuvwx".substring(0, n));
            for (int i : Numbers.outside(0, n - 1)) {
                c.due("charAt(" + i + ") of " + n + " chars", x.charAt(i), -1);
            }
            if (n > 0) {
                c.due("the first of " + n + " chars", x.charAt(0), 'a');
                c.due("the last of " + n + " chars", x.charAt(n - 1), 'a' + n - 1);
            }
        }
        IncrementalPackrat x = new IncrementalPackrat(1, 8);
        Checks.append(x, "abcdefgh");
        x.deleteRange(1, 3);
        c.due("a deleted char", x.charAt(5), -1);
        x.replaceRange(0, 5, 'z');
        c.due("a replaced char", x.charAt(1), -1);
        x.deleteRange(0, 1);
        c.due("the empty text again", x.charAt(0), -1);
    }

    private void charChangesNothing() {
        c.sentence("charAt(i) [..] changes nothing.");
        for (int i : Numbers.outside(0, 3)) {
            Traces.noneInAnyScene(c, "charAt(" + i + ")", "abca", x -> x.charAt(i), -1);
        }
        Traces.noneInAnyScene(c, "charAt(1)", "abca", x -> x.charAt(1), (int) 'b');
        Traces.noneInAnyScene(c, "charAt(0)", "", x -> x.charAt(0), -1);
    }

    public static void main(String[] args) {
        ReadTextTest t = new ReadTextTest();
        t.c.run(t::lengths, t::lengthChangesNothing, t::charValues, t::outsideTheText, t::charChangesNothing);
    }
}
