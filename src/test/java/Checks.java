/** Counts the answers of one test, prints the wrong ones, and ends with exit code 1 if there was one. */
final class Checks {
    private final String name;
    private int passed = 0;
    private int failed = 0;

    Checks(String name) {
        this.name = name;
    }

    void due(String call, long got, long want) {
        note(got == want, call, got, want);
    }

    void due(String call, boolean got, boolean want) {
        note(got == want, call, got, want);
    }

    void due(String call, String got, String want) {
        note(got.equals(want), call, got, want);
    }

    private void note(boolean right, String call, Object got, Object want) {
        if (right) {
            passed++;
            return;
        }
        failed++;
        System.out.println(call + " answered " + got + ", due is " + want);
    }

    void end() {
        System.out.println(name + ": " + passed + " passed, " + failed + " failed");
        if (failed != 0 || passed == 0) {
            System.exit(1);
        }
    }

    /** Appends the chars of s to the text. */
    static void append(IncrementalPackrat x, String s) {
        for (int i = 0; i < s.length(); i++) {
            if (!x.insertChar(x.textLength(), s.charAt(i))) {
                throw new IllegalStateException("a test's own text does not fit: " + s);
            }
        }
    }

    static String textOf(IncrementalPackrat x) {
        StringBuilder s = new StringBuilder();
        for (int i = 0; i < x.textLength(); i++) {
            s.append((char) x.charAt(i));
        }
        return s.toString();
    }

    /** The stored tree as "rule:start-end^parent" for each node, and the count. */
    static String treeOf(IncrementalPackrat x) {
        StringBuilder s = new StringBuilder();
        s.append(x.nodeCount());
        for (int i = 0; i < x.nodeCount() && i < IncrementalPackrat.MAX_NODES; i++) {
            s.append(' ').append(x.nodeRule(i)).append(':').append(x.nodeStart(i));
            s.append('-').append(x.nodeEnd(i)).append('^').append(x.nodeParent(i));
        }
        return s.toString();
    }

    /** All that the accessors answer, with the arguments around their edges. */
    static String stateOf(IncrementalPackrat x) {
        StringBuilder s = new StringBuilder();
        s.append(x.isCompiled()).append(' ').append(x.textLength()).append(' ').append(x.furthest());
        for (int i = -2; i <= 26; i++) {
            s.append(' ').append(x.charAt(i));
        }
        s.append(" / ").append(x.nodeCount());
        for (int i = -2; i <= 66; i++) {
            s.append(' ').append(x.nodeRule(i)).append(',').append(x.nodeStart(i));
            s.append(',').append(x.nodeEnd(i)).append(',').append(x.nodeParent(i));
        }
        return s.toString();
    }
}
