import java.util.function.Consumer;

/** The history independence of promise 11. */
public final class HistoryTest {
    private static final String[][] GRAMMARS = {
        {"0 = #1* #2?", "1 = a b", "1 = a", "2 = b c"},
        {"0 = &#1 .* !.", "1 = a #1", "1 = b"},
        {"0 = a #0 b", "0 = #1", "1 = c?"},
        {"0 = #1 #1 #1 #1", "1 = #2 #2 #2 #2", "2 = #3 #3 #3 #3", "3 = a?"},
        {"0 =", "1 = #0 a", "2 = !a"},
        {}};
    private static final String[] TEXTS = {"", "a", "abab", "aaaab", "abcabcab", "aacbb", "bbbbbbbbbb", "aaaaaaaaaa"};

    private final Checks c = new Checks("HistoryTest");

    private static void parseAll(IncrementalPackrat x) {
        for (int r = 0; r < 4; r++) {
            for (int p = 0; p <= x.textLength(); p++) {
                x.parse(r, p);
            }
        }
    }

    private static void reversed(IncrementalPackrat x, String text) {
        for (int i = text.length() - 1; i >= 0; i--) {
            x.insertChar(0, text.charAt(i));
            parseAll(x);
        }
    }

    private static void outOfAFullText(IncrementalPackrat x, String text) {
        while (x.insertChar(0, 'a')) {
            parseAll(x);
        }
        for (int i = 0; i < text.length(); i++) {
            x.replaceRange(i, 1, text.charAt(i));
            parseAll(x);
        }
        while (x.deleteRange(text.length(), 1)) {
            parseAll(x);
        }
    }

    private static void afterAnother(IncrementalPackrat x, String text) {
        Checks.append(x, "aabcc");
        parseAll(x);
        x.deleteRange(0, 5);
        parseAll(x);
        Checks.append(x, text);
    }

    private static void byLargeReplaces(IncrementalPackrat x, String text) {
        for (int i = 0; i < text.length(); i++) {
            while (x.textLength() < 10) {
                x.insertChar(i, 'c');
            }
            parseAll(x);
            x.replaceRange(i, 10 - i, text.charAt(i));
            parseAll(x);
        }
    }

    private void sameAsNew(String name, String[] alts, String text, Consumer<IncrementalPackrat> history) {
        IncrementalPackrat x = Grammars.compiled(4, 10, alts);
        history.accept(x);
        c.due(name + ": the text", Checks.textOf(x), text);
        int last = text.length();
        for (int r = 0; r < 4; r++) {
            for (int k = 0; k <= 2 * last + 1; k++) {
                // Back through the positions, and forward.
                int p = k <= last ? last - k : k - last - 1;
                IncrementalPackrat fresh = Grammars.compiled(4, 10, alts);
                Checks.append(fresh, text);
                String call = name + ": parse(" + r + ", " + p + ") of '" + text + "' by " + String.join(" / ", alts);
                c.due(call, x.parse(r, p), fresh.parse(r, p));
                c.due(call + ": outcome", Checks.stateOf(x), Checks.stateOf(fresh));
            }
        }
    }

    private void editsAndParsesBefore() {
        c.sentence("Earlier edits, their order, and earlier parses make no difference.");
        for (String[] alts : GRAMMARS) {
            for (String text : TEXTS) {
                sameAsNew("text from behind", alts, text, x -> reversed(x, text));
                sameAsNew("text out of a full one", alts, text, x -> outOfAFullText(x, text));
                sameAsNew("text after another", alts, text, x -> afterAnother(x, text));
                sameAsNew("text by replaces", alts, text, x -> byLargeReplaces(x, text));
            }
        }
    }

    /** A rejected compile and refused calls among those that build; other calls come between them, or none. */
    private IncrementalPackrat builtWith(Consumer<IncrementalPackrat> between) {
        IncrementalPackrat x = Grammars.building(4, 10, "0 = #1* #2?", "2 = c", "1 = a?");
        between.accept(x);
        c.due("a rejected compile", x.compile(), IncrementalPackrat.COMPILE_BAD_REPEAT);
        between.accept(x);
        c.due("a refused newAlt", x.newAlt(4), -1);
        c.due("a refused addItem", x.addItem(IncrementalPackrat.KIND_CHAR, -1, 0, IncrementalPackrat.MODE_ONE), -1);
        between.accept(x);
        c.due("an item", x.addItem(IncrementalPackrat.KIND_CHAR, 'b', 0, IncrementalPackrat.MODE_ONE), 1);
        c.due("an accepted compile", x.compile(), IncrementalPackrat.COMPILE_OK);
        between.accept(x);
        c.due("a compile when frozen", x.compile(), IncrementalPackrat.COMPILE_FROZEN);
        return x;
    }

    private static void editAndParse(IncrementalPackrat x) {
        x.insertChar(0, 'a');
        x.parse(0, 0);
        x.insertChar(1, 'b');
        x.parse(1, 1);
        x.replaceRange(0, 2, 'c');
        x.parse(2, 0);
    }

    private void callsBetweenTheBuilding() {
        c.sentence("They are the same as on a new object built with the same constructor arguments and the same"
            + " grammar-building calls");
        for (String text : TEXTS) {
            for (int p = 0; p <= text.length(); p++) {
                IncrementalPackrat x = builtWith(HistoryTest::editAndParse);
                IncrementalPackrat fresh = builtWith(y -> { });
                x.deleteRange(0, x.textLength());
                Checks.append(x, text);
                Checks.append(fresh, text);
                c.due("parse(0, " + p + ") of '" + text + "'", x.parse(0, p), fresh.parse(0, p));
                c.due("outcome of '" + text + "'", Checks.stateOf(x), Checks.stateOf(fresh));
            }
        }
    }

    private void largeTreesBefore() {
        c.sentence("[..] right after it depend only on the constructor arguments, the grammar-building calls [..] and the"
            + " current text.");
        IncrementalPackrat x = Grammars.compiled(4, 10, GRAMMARS[3]);
        c.due("a large tree", x.parse(0, 0), 0);
        c.due("its count", x.nodeCount(), 65);
        c.due("a smaller one", x.parse(2, 0), 0);
        c.due("its nodes", Checks.treeOf(x), "5 2:0-0^-1 3:0-0^0 3:0-0^0 3:0-0^0 3:0-0^0");
        c.due("the smallest", x.parse(3, 0), 0);
        c.due("its nodes", Checks.treeOf(x), "1 3:0-0^-1");
        c.due("the same parse again", x.parse(3, 0), 0);
        c.due("its nodes again", Checks.treeOf(x), "1 3:0-0^-1");
        c.due("the large one again", x.parse(0, 0), 0);
        c.due("its count again", x.nodeCount(), 65);
    }

    public static void main(String[] args) {
        HistoryTest t = new HistoryTest();
        t.c.run(t::editsAndParsesBefore, t::callsBetweenTheBuilding, t::largeTreesBefore);
    }
}
