/** Promise 3: addItem appends an item. */
public final class AddItemTest {
    private static final int LOW = Integer.MIN_VALUE;
    private static final int HIGH = Integer.MAX_VALUE;

    private static void refusals(Checks c) {
        int[][] bad = {
            {-1, 0, 0, 0}, {4, 0, 0, 0}, {LOW, 0, 0, 0}, {HIGH, 0, 0, 0},
            {0, 97, 0, -1}, {0, 97, 0, 6}, {1, 0, 9, LOW}, {2, 0, 0, HIGH}, {3, 0, 0, 6},
            {0, -1, 0, 0}, {0, 65536, 0, 0}, {0, LOW, 0, 0}, {0, HIGH, 0, 0},
            {1, -1, 5, 0}, {1, 6, 5, 0}, {1, 0, 65536, 0}, {1, 65536, 65536, 0}, {1, LOW, HIGH, 0},
            {1, 0, -1, 0}, {1, HIGH, LOW, 0}, {1, -5, -3, 0},
            {3, -1, 0, 0}, {3, 3, 0, 0}, {3, LOW, 0, 0}, {3, HIGH, 0, 0}};
        IncrementalPackrat none = new IncrementalPackrat(3, 8);
        IncrementalPackrat x = new IncrementalPackrat(3, 8);
        x.newAlt(0);
        for (int[] row : bad) {
            String call = "addItem(" + row[0] + ", " + row[1] + ", " + row[2] + ", " + row[3] + ")";
            c.due(call, x.addItem(row[0], row[1], row[2], row[3]), -1);
            c.due(call + " with no alternative", none.addItem(row[0], row[1], row[2], row[3]), -1);
        }
        c.due("a good item with no alternative", none.addItem(2, 0, 0, 0), -1);
        c.due("the first good item", x.addItem(2, 0, 0, 0), 0);
    }

    private static void edgesThatAreTaken(Checks c) {
        int[][] good = {
            {0, 0, LOW, 0}, {0, 65535, HIGH, 1}, {1, 0, 65535, 2}, {1, 0, 0, 3}, {1, 65535, 65535, 4},
            {2, LOW, HIGH, 5}, {2, HIGH, LOW, 0}, {3, 0, LOW, 1}, {3, 2, HIGH, 4}};
        for (int[] row : good) {
            IncrementalPackrat x = new IncrementalPackrat(3, 8);
            x.newAlt(0);
            String call = "addItem(" + row[0] + ", " + row[1] + ", " + row[2] + ", " + row[3] + ")";
            for (int i = 0; i < 4; i++) {
                c.due(call + " as item " + i, x.addItem(row[0], row[1], row[2], row[3]), i);
            }
            c.due(call + " as the fifth", x.addItem(row[0], row[1], row[2], row[3]), -1);
            x.newAlt(0);
            c.due(call + " in the next alternative", x.addItem(row[0], row[1], row[2], row[3]), 0);
        }
    }

    /** Which of the chars 0, 96..99, 65534, 65535 one item matches. */
    private static String matched(int kind, int a, int b) {
        IncrementalPackrat x = new IncrementalPackrat(2, 8);
        x.newAlt(0);
        x.addItem(kind, a, b, IncrementalPackrat.MODE_ONE);
        x.compile();
        int[] chars = {0, 96, 97, 98, 99, 65534, 65535};
        for (int i = 0; i < chars.length; i++) {
            x.insertChar(i, (char) chars[i]);
        }
        StringBuilder s = new StringBuilder();
        for (int i = 0; i <= chars.length; i++) {
            s.append(x.parse(0, i) == i + 1 ? 'y' : 'n');
        }
        return s.toString();
    }

    private static void bases(Checks c) {
        c.due("char 97, b ignored", matched(0, 97, 99), "nnynnnnn");
        c.due("char 0", matched(0, 0, 65535), "ynnnnnnn");
        c.due("char 65535", matched(0, 65535, 0), "nnnnnnyn");
        c.due("range 97..98", matched(1, 97, 98), "nnyynnnn");
        c.due("range 98..98", matched(1, 98, 98), "nnnynnnn");
        c.due("range 0..65535", matched(1, 0, 65535), "yyyyyyyn");
        c.due("range 98..65534", matched(1, 98, 65534), "nnnyyynn");
        c.due("any, a and b ignored", matched(2, 98, 97), "yyyyyyyn");
        c.due("a rule without alternatives", matched(3, 1, 0), "nnnnnnnn");
    }

    private static void refusedItemLeavesNoTrace(Checks c) {
        IncrementalPackrat x = new IncrementalPackrat(1, 8);
        x.newAlt(0);
        x.addItem(IncrementalPackrat.KIND_CHAR, 'a', 0, 0);
        x.addItem(IncrementalPackrat.KIND_CHAR, 'b', 0, 0);
        x.addItem(IncrementalPackrat.KIND_CHAR, 'c', 0, 0);
        x.addItem(IncrementalPackrat.KIND_CHAR, 'd', 0, 9);
        x.addItem(IncrementalPackrat.KIND_CHAR, 'd', 0, 0);
        x.addItem(IncrementalPackrat.KIND_CHAR, 'x', 0, 0);
        Checks.append(x, "abcdx");
        String before = Checks.stateOf(x);
        c.due("a fifth item", x.addItem(IncrementalPackrat.KIND_CHAR, 'y', 0, 0), -1);
        c.due("state after addItem", Checks.stateOf(x), before);
        x.compile();
        c.due("parse(0, 0)", x.parse(0, 0), 4);
        before = Checks.stateOf(x);
        c.due("addItem when frozen", x.addItem(IncrementalPackrat.KIND_ANY, 0, 0, 0), -1);
        c.due("state after a refused addItem", Checks.stateOf(x), before);
        c.due("parse again", x.parse(0, 0), 4);
    }

    private static void frozenWithRoomLeft(Checks c) {
        IncrementalPackrat x = new IncrementalPackrat(1, 8);
        x.newAlt(0);
        x.compile();
        c.due("addItem when frozen, alternative not full", x.addItem(IncrementalPackrat.KIND_ANY, 0, 0, 0), -1);
        c.due("the alternative is still empty", x.parse(0, 0), 0);
    }

    private static void nothingElseChanges(Checks c) {
        IncrementalPackrat x = new IncrementalPackrat(1, 8);
        x.newAlt(0);
        Checks.append(x, "ab");
        String before = Checks.stateOf(x);
        for (int i = 0; i < 4; i++) {
            x.addItem(IncrementalPackrat.KIND_RANGE, 'a', 'b', IncrementalPackrat.MODE_OPT);
        }
        c.due("state after good items", Checks.stateOf(x), before);
    }

    public static void main(String[] args) {
        Checks c = new Checks("AddItemTest");
        refusals(c);
        edgesThatAreTaken(c);
        bases(c);
        refusedItemLeavesNoTrace(c);
        frozenWithRoomLeft(c);
        nothingElseChanges(c);
        c.end();
    }
}
