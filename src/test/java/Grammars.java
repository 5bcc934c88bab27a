/**
 * Builds grammars from short words, one alternative a string: "0 = a b-z* #1? &. !#2" gives rule 0
 * the char a, the range b..z as STAR, rule 1 as OPT, any char as AND and rule 2 as NOT.
 */
final class Grammars {
    private Grammars() {
    }

    static IncrementalPackrat building(int rules, int capacity, String... alts) {
        IncrementalPackrat x = new IncrementalPackrat(rules, capacity);
        add(x, alts);
        return x;
    }

    static IncrementalPackrat compiled(int rules, int capacity, String... alts) {
        IncrementalPackrat x = building(rules, capacity, alts);
        require(x.compile() == IncrementalPackrat.COMPILE_OK, "compile");
        return x;
    }

    static void add(IncrementalPackrat x, String... alts) {
        for (String alt : alts) {
            String[] words = alt.trim().split("\\s+");
            require(words[1].equals("=") && x.newAlt(Integer.parseInt(words[0])) >= 0, alt);
            for (int i = 2; i < words.length; i++) {
                require(addWord(x, words[i]) == i - 2, alt);
            }
        }
    }

    private static int addWord(IncrementalPackrat x, String word) {
        int prefix = word.length() > 1 ? "&!".indexOf(word.charAt(0)) : -1;
        if (prefix >= 0) {
            return addBase(x, word.substring(1), IncrementalPackrat.MODE_AND + prefix);
        }
        int last = word.length() - 1;
        int suffix = last > 0 ? "?*+".indexOf(word.charAt(last)) : -1;
        if (suffix >= 0) {
            return addBase(x, word.substring(0, last), IncrementalPackrat.MODE_OPT + suffix);
        }
        return addBase(x, word, IncrementalPackrat.MODE_ONE);
    }

    private static int addBase(IncrementalPackrat x, String base, int mode) {
        if (base.length() == 3) {
            return x.addItem(IncrementalPackrat.KIND_RANGE, base.charAt(0), base.charAt(2), mode);
        }
        if (base.length() == 2) {
            return x.addItem(IncrementalPackrat.KIND_RULE, base.charAt(1) - '0', 0, mode);
        }
        if (base.equals(".")) {
            return x.addItem(IncrementalPackrat.KIND_ANY, 0, 0, mode);
        }
        return x.addItem(IncrementalPackrat.KIND_CHAR, base.charAt(0), 0, mode);
    }

    /** Which of the chars 0, 96..99, 65534, 65535 and of the text's end one such item matches. */
    static String matched(int kind, int a, int b) {
        IncrementalPackrat x = new IncrementalPackrat(2, 8);
        x.newAlt(0);
        require(x.addItem(kind, a, b, IncrementalPackrat.MODE_ONE) == 0, "item");
        x.compile();
        int[] chars = {0, 96, 97, 98, 99, 65534, 65535};
        for (int i = 0; i < chars.length; i++) {
            x.insertChar(i, (char) chars[i]);
        }
        StringBuilder s = new StringBuilder();
        for (int i = 0; i <= chars.length; i++) {
            s.append(x.parse(0, i) == i + 1 ? 'y' : 'n');
        }
        return s.toString();
    }

    private static void require(boolean holds, String what) {
        if (!holds) {
            throw new IllegalStateException("a test's own grammar was refused: " + what);
        }
    }
}
