/** One grammar and any text in each state that a call can meet: the phases, and the outcomes. */
final class Scenes {
    static final int RULES = 4;
    static final int CAPACITY = 10;
    static final String[] GRAMMAR = {"0 = #1 #2? #3", "1 = a", "2 = b c", "3 = a?"};

    static final int BUILDING = 0;
    static final int FROZEN = 1;
    static final int SUCCEEDED = 2;
    static final int FAILED = 3;
    static final int[] ALL = {BUILDING, FROZEN, SUCCEEDED, FAILED};
    static final int[] FROZEN_ONES = {FROZEN, SUCCEEDED, FAILED};

    private static final String[] NAMES = {"while building", "when frozen", "after a success", "after a failure"};

    private Scenes() {
    }

    static String name(int scene) {
        return NAMES[scene];
    }

    static IncrementalPackrat make(int scene, String text) {
        IncrementalPackrat x = new IncrementalPackrat(RULES, CAPACITY);
        // The text comes first, so that no edit can have touched the grammar.
        Checks.append(x, text);
        Grammars.add(x, GRAMMAR);
        if (scene != BUILDING) {
            require(x.compile() == IncrementalPackrat.COMPILE_OK);
        }
        if (scene == SUCCEEDED) {
            // Rule 3 succeeds on the empty text too.
            require(x.parse(0, 0) >= 0 || x.parse(3, 0) >= 0);
        }
        if (scene == FAILED) {
            require(x.parse(2, 0) == IncrementalPackrat.PARSE_FAIL);
        }
        return x;
    }

    private static void require(boolean holds) {
        if (!holds) {
            throw new IllegalStateException("a test's own scene does not stand");
        }
    }
}
