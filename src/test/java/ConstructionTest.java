/** Promise 1: construction and starting state. */
public final class ConstructionTest {
    private static final int LOW = Integer.MIN_VALUE;
    private static final int HIGH = Integer.MAX_VALUE;

    /** R, seen from outside: how many rule numbers newAlt takes. */
    private static int rulesOf(IncrementalPackrat x) {
        int count = 0;
        for (int r = -10; r < 20; r++) {
            count += x.newAlt(r) >= 0 ? 1 : 0;
        }
        return count;
    }

    /** T, seen from outside: how many chars fit. */
    private static int capacityOf(IncrementalPackrat x) {
        for (int i = 0; i < 100 && x.insertChar(0, 'x'); i++) {
            continue;
        }
        return x.textLength();
    }

    private static void startingState(Checks c, IncrementalPackrat x, String name) {
        c.due(name + " isCompiled", x.isCompiled(), false);
        c.due(name + " textLength", x.textLength(), 0);
        c.due(name + " charAt(0)", x.charAt(0), -1);
        c.due(name + " furthest", x.furthest(), -1);
        c.due(name + " nodeCount", x.nodeCount(), 0);
        c.due(name + " nodeRule(0)", x.nodeRule(0), -1);
        c.due(name + " nodeStart(0)", x.nodeStart(0), -1);
        c.due(name + " nodeEnd(0)", x.nodeEnd(0), -1);
        c.due(name + " nodeParent(0)", x.nodeParent(0), -1);
        c.due(name + " parse(0, 0)", x.parse(0, 0), IncrementalPackrat.PARSE_REFUSED);
        c.due(name + " addItem with no alternative", x.addItem(2, 0, 0, 0), -1);
        c.due(name + " deleteRange(0, 1)", x.deleteRange(0, 1), false);
        c.due(name + " first alternative", x.newAlt(0), 0);
    }

    private static void neverChanges(Checks c) {
        IncrementalPackrat x = new IncrementalPackrat(3, 9);
        x.newAlt(2);
        x.addItem(IncrementalPackrat.KIND_ANY, 0, 0, IncrementalPackrat.MODE_STAR);
        c.due("R while building", x.newAlt(3), -1);
        x.compile();
        c.due("T at first", capacityOf(x), 9);
        c.due("R after compile", x.parse(3, 0), IncrementalPackrat.PARSE_REFUSED);
        c.due("last rule after compile", x.parse(2, 0), 9);
        x.deleteRange(0, 9);
        c.due("T after a delete", capacityOf(x), 9);
        x.replaceRange(0, 9, 'y');
        c.due("T after a replace", capacityOf(x), 9);
    }

    public static void main(String[] args) {
        Checks c = new Checks("ConstructionTest");
        int[][] rules = {{LOW, 1}, {-1, 1}, {0, 1}, {1, 1}, {2, 2}, {5, 5}, {7, 7}, {8, 8}, {9, 8}, {HIGH, 8}};
        for (int[] row : rules) {
            c.due("R for " + row[0], rulesOf(new IncrementalPackrat(row[0], 10)), row[1]);
        }
        int[][] capacities = {{LOW, 8}, {-1, 8}, {0, 8}, {7, 8}, {8, 8}, {9, 9}, {16, 16}, {23, 23}, {24, 24},
            {25, 24}, {HIGH, 24}};
        for (int[] row : capacities) {
            c.due("T for " + row[0], capacityOf(new IncrementalPackrat(1, row[0])), row[1]);
        }
        int[] extremes = {LOW, 0, 4, HIGH};
        for (int r : extremes) {
            for (int t : extremes) {
                startingState(c, new IncrementalPackrat(r, t), "(" + r + ", " + t + ")");
            }
        }
        neverChanges(c);
        c.end();
    }
}
