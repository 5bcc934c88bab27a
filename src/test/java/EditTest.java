/** Promises 6 to 10: insertChar, deleteRange, replaceRange, textLength, charAt. */
public final class EditTest {
    private static final int LOW = Integer.MIN_VALUE;
    private static final int HIGH = Integer.MAX_VALUE;

    /** An object with this text and a stored outcome: F = 0 and one node. */
    private static IncrementalPackrat parsed(String text) {
        IncrementalPackrat x = Grammars.compiled(1, 10, "0 = .?");
        Checks.append(x, text);
        x.parse(0, 0);
        return x;
    }

    private static void outcomeIsForgotten(Checks c, String call, IncrementalPackrat x) {
        c.due(call + " furthest", x.furthest(), -1);
        c.due(call + " nodeCount", x.nodeCount(), 0);
        c.due(call + " nodeRule(0)", x.nodeRule(0), -1);
        c.due(call + " isCompiled", x.isCompiled(), true);
        c.due(call + " grammar", x.parse(0, 0), x.textLength() == 0 ? 0 : 1);
    }

    /** A null for the text that is due stands for a refusal, which leaves the state as it was before. */
    private static void judge(Checks c, String call, IncrementalPackrat x, boolean answer, String before, String want) {
        c.due(call, answer, want != null);
        if (want == null) {
            c.due(call + " state", Checks.stateOf(x), before);
            return;
        }
        c.due(call + " text", Checks.textOf(x), want);
        outcomeIsForgotten(c, call, x);
    }

    private static void insert(Checks c, String text, int pos, char ch, String want) {
        String call = "insertChar(" + pos + ", " + ch + ") in '" + text + "'";
        IncrementalPackrat x = parsed(text);
        String before = Checks.stateOf(x);
        boolean answer = x.insertChar(pos, ch);
        judge(c, call, x, answer, before, want);
    }

    private static void delete(Checks c, String text, int pos, int len, String want) {
        String call = "deleteRange(" + pos + ", " + len + ") in '" + text + "'";
        IncrementalPackrat x = parsed(text);
        String before = Checks.stateOf(x);
        boolean answer = x.deleteRange(pos, len);
        judge(c, call, x, answer, before, want);
    }

    private static void replace(Checks c, String text, int pos, int len, String want) {
        String call = "replaceRange(" + pos + ", " + len + ", z) in '" + text + "'";
        IncrementalPackrat x = parsed(text);
        String before = Checks.stateOf(x);
        boolean answer = x.replaceRange(pos, len, 'z');
        judge(c, call, x, answer, before, want);
    }

    private static void inserts(Checks c) {
        insert(c, "", 0, 'z', "z");
        insert(c, "abc", 0, 'z', "zabc");
        insert(c, "abc", 1, 'z', "azbc");
        insert(c, "abc", 3, 'z', "abcz");
        insert(c, "abc", 4, 'z', null);
        insert(c, "abc", -1, 'z', null);
        insert(c, "abc", LOW, 'z', null);
        insert(c, "abc", HIGH, 'z', null);
        insert(c, "", 1, 'z', null);
        insert(c, "abcdefghi", 9, 'z', "abcdefghiz");
        insert(c, "abcdefghi", 0, 'z', "zabcdefghi");
        insert(c, "abcdefghij", 10, 'z', null);
        insert(c, "abcdefghij", 0, 'z', null);
        insert(c, "abcdefghij", 5, 'z', null);
    }

    /** What both range edits refuse in a text of four chars: pos and len. */
    private static final int[][] BAD_RANGES = {
        {-1, 1}, {-1, 2}, {0, 0}, {0, -1}, {0, 5}, {1, 4}, {3, 2}, {4, 1}, {4, 0}, {5, 1}, {5, -1}, {0, LOW}, {0, HIGH},
        {1, HIGH}, {4, HIGH}, {LOW, 1}, {HIGH, 1}, {HIGH, HIGH}, {LOW, LOW}, {LOW, HIGH}, {HIGH, LOW}, {-1, HIGH}};

    private static void deletes(Checks c) {
        for (int[] row : BAD_RANGES) {
            delete(c, "abcd", row[0], row[1], null);
        }
        delete(c, "", 0, 1, null);
        delete(c, "", 0, 0, null);
        delete(c, "", 1, 1, null);
        delete(c, "abcdefghij", 10, 1, null);
        delete(c, "abcd", 0, 1, "bcd");
        delete(c, "abcd", 1, 1, "acd");
        delete(c, "abcd", 1, 2, "ad");
        delete(c, "abcd", 3, 1, "abc");
        delete(c, "abcd", 1, 3, "a");
        delete(c, "abcd", 0, 4, "");
        delete(c, "abcdefghij", 0, 3, "defghij");
        delete(c, "abcdefghij", 2, 5, "abhij");
        delete(c, "abcdefghij", 9, 1, "abcdefghi");
    }

    private static void replaces(Checks c) {
        for (int[] row : BAD_RANGES) {
            replace(c, "abcd", row[0], row[1], null);
        }
        replace(c, "", 0, 1, null);
        replace(c, "", 0, 0, null);
        replace(c, "abcdefghij", 10, 1, null);
        replace(c, "abcd", 0, 1, "zbcd");
        replace(c, "abcd", 2, 1, "abzd");
        replace(c, "abcd", 3, 1, "abcz");
        replace(c, "abcd", 1, 2, "azd");
        replace(c, "abcd", 0, 4, "z");
        replace(c, "abcd", 2, 2, "abz");
        replace(c, "abcdefghij", 0, 10, "z");
        replace(c, "abcdefghij", 9, 1, "abcdefghiz");
        replace(c, "abcdefghij", 3, 4, "abczhij");
        replace(c, "zzz", 1, 1, "zzz");
    }

    private static void atTheGreatestCapacity(Checks c) {
        IncrementalPackrat x = new IncrementalPackrat(1, 24);
        Checks.append(x, "abcdefghijklmnopqrstuvwx");
        c.due("insert into the full text", x.insertChar(24, 'y'), false);
        c.due("replace in the full text", x.replaceRange(23, 1, 'y'), true);
        c.due("text", Checks.textOf(x), "abcdefghijklmnopqrstuvwy");
        c.due("delete from the full text", x.deleteRange(0, 1), true);
        c.due("text", Checks.textOf(x), "bcdefghijklmnopqrstuvwy");
        c.due("insert into the last place", x.insertChar(0, 'z'), true);
        c.due("text", Checks.textOf(x), "zbcdefghijklmnopqrstuvwy");
        c.due("delete the last chars", x.deleteRange(20, 4), true);
        c.due("text", Checks.textOf(x), "zbcdefghijklmnopqrst");
    }

    private static void inEitherPhase(Checks c) {
        IncrementalPackrat x = Grammars.building(1, 8, "0 = a");
        c.due("insert while building", x.insertChar(0, 'a'), true);
        c.due("insert while building", x.insertChar(1, 'b'), true);
        c.due("insert while building", x.insertChar(0, 'c'), true);
        c.due("replace while building", x.replaceRange(0, 1, 'd'), true);
        c.due("delete while building", x.deleteRange(2, 1), true);
        c.due("text", Checks.textOf(x), "da");
        c.due("still building", x.isCompiled(), false);
        c.due("the current alternative stays", x.addItem(IncrementalPackrat.KIND_CHAR, 'b', 0, 0), 1);
        x.compile();
        c.due("text after compile", Checks.textOf(x), "da");
        c.due("insert when frozen", x.insertChar(2, 'b'), true);
        c.due("parse", x.parse(0, 1), 3);
    }

    private static void reading(Checks c) {
        IncrementalPackrat x = new IncrementalPackrat(1, 24);
        int[] chars = {0, 65535, 55296, 97, 32768};
        for (int i = 0; i < chars.length; i++) {
            c.due("textLength at " + i, x.textLength(), i);
            x.insertChar(i, (char) chars[i]);
        }
        for (int i = 0; i < chars.length; i++) {
            c.due("charAt(" + i + ")", x.charAt(i), chars[i]);
        }
        int[] outside = {-1, 5, 6, 23, 24, 25, LOW, HIGH};
        for (int i : outside) {
            c.due("charAt(" + i + ")", x.charAt(i), -1);
        }
        x.deleteRange(1, 3);
        c.due("textLength after a delete", x.textLength(), 2);
        c.due("charAt(1) after a delete", x.charAt(1), 32768);
        c.due("a deleted char can't be read", x.charAt(2), -1);
        x.replaceRange(0, 2, (char) 65535);
        c.due("textLength after a replace", x.textLength(), 1);
        c.due("charAt(0) after a replace", x.charAt(0), 65535);
        c.due("a replaced char can't be read", x.charAt(1), -1);
    }

    private static void readingChangesNothing(Checks c) {
        IncrementalPackrat x = parsed("abc");
        String before = Checks.stateOf(x);
        c.due("furthest before", x.furthest(), 0);
        x.textLength();
        x.charAt(0);
        x.charAt(-1);
        c.due("state after reading", Checks.stateOf(x), before);
    }

    public static void main(String[] args) {
        Checks c = new Checks("EditTest");
        inserts(c);
        deletes(c);
        replaces(c);
        atTheGreatestCapacity(c);
        inEitherPhase(c);
        reading(c);
        readingChangesNothing(c);
        c.end();
    }
}
