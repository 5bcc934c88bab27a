/**
 * Counts the answers of one test, prints the wrong ones under the sentence of the document that
 * they are due by, and ends with exit code 1 if there was one.
 */
final class Checks {
    private static final int MOST_SHOWN = 300;

    private final String name;
    private String sentence = "";
    private int sentences = 0;
    private int passed = 0;
    private int failed = 0;
    private int countAtSentence = 0;

    Checks(String name) {
        this.name = name;
    }

    /** Runs the tests; one that throws counts as failed and does not keep the others from their turn. */
    void run(Runnable... tests) {
        for (Runnable test : tests) {
            try {
                test.run();
            } catch (RuntimeException e) {
                note(false, "a call", e + " at " + e.getStackTrace()[0], "an answer");
            }
        }
        end();
    }

    /** The test of this sentence of the document begins, and the one before it is over. */
    void sentence(String words) {
        closeSentence();
        sentence = words;
        sentences++;
        countAtSentence = passed + failed;
    }

    private void closeSentence() {
        if (!sentence.isEmpty() && passed + failed == countAtSentence) {
            failed++;
            System.out.println("nothing was looked at for: " + sentence);
        }
    }

    void due(String call, long got, long want) {
        note(got == want, call, String.valueOf(got), String.valueOf(want));
    }

    void due(String call, boolean got, boolean want) {
        note(got == want, call, String.valueOf(got), String.valueOf(want));
    }

    void due(String call, String got, String want) {
        note(got.equals(want), call, got, want);
    }

    /** What rule 0 answers at p and how far it looks, in a grammar of its own. */
    void parses(String text, int p, int end, int furthest, String... alts) {
        IncrementalPackrat x = Grammars.compiled(8, 24, alts);
        append(x, text);
        String call = "parse(0, " + p + ") of '" + text + "' by " + String.join(" / ", alts);
        due(call, x.parse(0, p), end);
        due(call + ": furthest", x.furthest(), furthest);
    }

    private void note(boolean right, String call, String got, String want) {
        if (right) {
            passed++;
            return;
        }
        failed++;
        int from = firstDifference(got, want);
        System.out.println(call + " answered " + shown(got, from) + ", due is " + shown(want, from)
            + (sentence.isEmpty() ? "" : " by: " + sentence));
    }

    private static int firstDifference(String got, String want) {
        int i = 0;
        while (i < got.length() && i < want.length() && got.charAt(i) == want.charAt(i)) {
            i++;
        }
        return i;
    }

    private static String shown(String answer, int from) {
        if (answer.length() <= MOST_SHOWN) {
            return answer;
        }
        int begin = Math.max(0, Math.min(from, answer.length()) - MOST_SHOWN / 2);
        return ".." + answer.substring(begin, Math.min(answer.length(), begin + MOST_SHOWN)) + "..";
    }

    void end() {
        closeSentence();
        System.out.println(name + ": " + passed + " passed, " + failed + " failed"
            + (sentences == 0 ? "" : ", for " + sentences + " sentences"));
        if (failed != 0 || passed == 0) {
            System.exit(1);
        }
    }

    /** Appends the chars of s to the text. */
    static void append(IncrementalPackrat x, String s) {
        for (int i = 0; i < s.length(); i++) {
            if (!x.insertChar(x.textLength(), s.charAt(i))) {
                throw new IllegalStateException("a test's own text does not fit: " + s);
            }
        }
    }

    static String textOf(IncrementalPackrat x) {
        StringBuilder s = new StringBuilder();
        for (int i = 0; i < x.textLength(); i++) {
            s.append((char) x.charAt(i));
        }
        return s.toString();
    }

    /** The stored tree as "rule:start-end^parent" for each node, and the count. */
    static String treeOf(IncrementalPackrat x) {
        StringBuilder s = new StringBuilder();
        s.append(x.nodeCount());
        for (int i = 0; i < x.nodeCount() && i < IncrementalPackrat.MAX_NODES; i++) {
            s.append(' ').append(x.nodeRule(i)).append(':').append(x.nodeStart(i));
            s.append('-').append(x.nodeEnd(i)).append('^').append(x.nodeParent(i));
        }
        return s.toString();
    }

    /** All that the accessors answer, with the arguments around their edges. */
    static String stateOf(IncrementalPackrat x) {
        StringBuilder s = new StringBuilder();
        s.append(x.isCompiled()).append(' ').append(x.textLength()).append(' ').append(x.furthest());
        for (int i = -2; i <= 26; i++) {
            s.append(' ').append(x.charAt(i));
        }
        s.append(" / ").append(x.nodeCount());
        for (int i = -2; i <= 66; i++) {
            s.append(' ').append(x.nodeRule(i)).append(',').append(x.nodeStart(i));
            s.append(',').append(x.nodeEnd(i)).append(',').append(x.nodeParent(i));
        }
        return s.toString();
    }

    /** The four accessors of node i as "rule start end parent". */
    static String nodeOf(IncrementalPackrat x, int i) {
        return x.nodeRule(i) + " " + x.nodeStart(i) + " " + x.nodeEnd(i) + " " + x.nodeParent(i);
    }
}
