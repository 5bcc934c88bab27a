import java.util.ArrayList;
import java.util.List;

/**
 * All promises at once: long runs of calls, good and bad, on IncrementalPackrat and on Reference,
 * with the whole state compared after each call; and the history independence of promise 11, by a
 * new object that gets the same grammar and the text as it is. The runs are the same every time.
 */
public final class ModelTest {
    private static final int RUNS = 6000;
    private static final int[] ODD = {Integer.MIN_VALUE, -2, -1, 8, 9, 16, 24, 25, 26, 65535, 65536, Integer.MAX_VALUE};

    private final Checks c = new Checks("ModelTest");
    private long seed;
    private int rules;
    private int capacity;
    private IncrementalPackrat x;
    private Reference y;
    private final List<int[]> building = new ArrayList<>();
    private final int[] compileAnswers = new int[4];
    private int successes = 0;
    private int largeTrees = 0;

    private int pick(int bound) {
        seed = seed * 6364136223846793005L + 1442695040888963407L;
        return (int) ((seed >>> 33) % bound);
    }

    /** Mostly 0..bound-1, now and then a number that is hardly ever due. */
    private int about(int bound) {
        return pick(40) == 0 ? ODD[pick(ODD.length)] : pick(bound);
    }

    private char letter() {
        return (char) ('a' + pick(3));
    }

    private void same(String call, long got, long want) {
        c.due(call, got, want);
        c.due("the state after " + call, Checks.stateOf(x), y.state());
    }

    private void newAlt(int r) {
        building.add(new int[] {0, r});
        same("newAlt(" + r + ")", x.newAlt(r), y.newAlt(r));
    }

    private void addItem(int kind, int a, int b, int mode) {
        building.add(new int[] {1, kind, a, b, mode});
        String call = "addItem(" + kind + ", " + a + ", " + b + ", " + mode + ")";
        same(call, x.addItem(kind, a, b, mode), y.addItem(kind, a, b, mode));
    }

    private int compile() {
        building.add(new int[] {2});
        int answer = y.compile();
        same("compile()", x.compile(), answer);
        compileAnswers[answer]++;
        return answer;
    }

    /** Rules mostly call later rules at start, or else few grammars would be accepted. */
    private void buildItem(int owner, int index) {
        int kind = about(5) % 5;
        int mode = about(6);
        if (kind == 4) {
            kind = IncrementalPackrat.KIND_RULE;
        }
        if (kind == IncrementalPackrat.KIND_RULE) {
            boolean later = index == 0 || pick(3) != 0;
            int room = y.rules() - owner - 1;
            int s = later && room > 0 ? owner + 1 + pick(room) : about(y.rules());
            addItem(kind, s, pick(100), pick(3) == 0 ? mode : IncrementalPackrat.MODE_ONE);
        } else {
            int low = letter();
            addItem(kind, pick(60) == 0 ? about(3) : low, low + pick(3) - (pick(40) == 0 ? 3 : 0), mode);
        }
    }

    private void buildAlternatives(int count) {
        for (int i = 0; i < count; i++) {
            int r = about(y.rules());
            newAlt(r);
            int size = pick(30) == 0 ? 6 : pick(5);
            for (int k = 0; k < size; k++) {
                buildItem(Math.max(0, Math.min(7, r)), k);
            }
        }
    }

    /** One alternative a rule, full of nullable items: accepted always, and with large trees. */
    private void buildDense() {
        int last = y.rules() - 1;
        for (int r = 0; r <= last; r++) {
            newAlt(r);
            for (int k = 0; k < 4; k++) {
                int optional = pick(3) == 0 ? IncrementalPackrat.MODE_OPT : IncrementalPackrat.MODE_ONE;
                if (r == last || pick(4) == 0) {
                    addItem(IncrementalPackrat.KIND_CHAR, letter(), 0, IncrementalPackrat.MODE_OPT);
                } else {
                    addItem(IncrementalPackrat.KIND_RULE, r + 1 + pick(Math.min(2, last - r)), 0, optional);
                }
            }
        }
    }

    private void edit() {
        int n = y.text().length();
        int pos = about(n + 1);
        int len = about(4);
        char ch = letter();
        switch (pick(5)) {
            case 0:
                same("deleteRange(" + pos + ", " + len + ")", x.deleteRange(pos, len) ? 1 : 0,
                    y.deleteRange(pos, len) ? 1 : 0);
                break;
            case 1:
                same("replaceRange(" + pos + ", " + len + ", " + ch + ")", x.replaceRange(pos, len, ch) ? 1 : 0,
                    y.replaceRange(pos, len, ch) ? 1 : 0);
                break;
            default:
                same("insertChar(" + pos + ", " + ch + ")", x.insertChar(pos, ch) ? 1 : 0,
                    y.insertChar(pos, ch) ? 1 : 0);
        }
    }

    private void parse() {
        int r = about(y.rules());
        int p = pick(2) == 0 ? 0 : about(y.text().length() + 1);
        String call = "parse(" + r + ", " + p + ")";
        int want = y.parse(r, p);
        same(call, x.parse(r, p), want);
        if (want != IncrementalPackrat.PARSE_REFUSED) {
            successes += want >= 0 ? 1 : 0;
            largeTrees += x.nodeCount() > IncrementalPackrat.MAX_NODES ? 1 : 0;
            IncrementalPackrat fresh = rebuilt();
            c.due(call + " on a new object", fresh.parse(r, p), want);
            c.due("the state of a new object", Checks.stateOf(fresh), y.state());
        }
    }

    private IncrementalPackrat rebuilt() {
        IncrementalPackrat fresh = new IncrementalPackrat(rules, capacity);
        for (int[] call : building) {
            if (call[0] == 0) {
                fresh.newAlt(call[1]);
            } else if (call[0] == 1) {
                fresh.addItem(call[1], call[2], call[3], call[4]);
            } else {
                fresh.compile();
            }
        }
        Checks.append(fresh, y.text());
        return fresh;
    }

    private void run(int number) {
        seed = number * 7919L + 17;
        pick(2);
        rules = about(10);
        capacity = about(30);
        x = new IncrementalPackrat(rules, capacity);
        y = new Reference(rules, capacity);
        building.clear();
        if (pick(4) == 0) {
            addItem(2, 0, 0, 0);
            edit();
            parse();
        }
        if (number % 10 == 0) {
            buildDense();
        } else {
            buildAlternatives(pick(8) == 0 ? 17 : 1 + pick(10));
        }
        if (compile() != IncrementalPackrat.COMPILE_OK) {
            edit();
            parse();
            buildAlternatives(1 + pick(3));
            compile();
        }
        int fill = pick(25);
        for (int i = 0; i < fill; i++) {
            char ch = letter();
            same("insertChar(0, " + ch + ")", x.insertChar(0, ch) ? 1 : 0, y.insertChar(0, ch) ? 1 : 0);
        }
        for (int i = 0; i < 12; i++) {
            parse();
            edit();
            parse();
            parse();
        }
        newAlt(0);
        addItem(2, 0, 0, 0);
        compile();
        parse();
    }

    private void runAll() {
        for (int i = 0; i < RUNS; i++) {
            run(i);
        }
        // The runs would be worth little if they left one of these out.
        for (int answer = 0; answer < 4; answer++) {
            c.due("many compiles answered " + answer, compileAnswers[answer] > RUNS / 20, true);
        }
        c.due("many successes", successes > RUNS, true);
        c.due("some trees larger than what is stored", largeTrees > 20, true);
        System.out.println("compile answers " + java.util.Arrays.toString(compileAnswers) + ", successes "
            + successes + ", large trees " + largeTrees);
        c.end();
    }

    public static void main(String[] args) {
        new ModelTest().runAll();
    }
}
