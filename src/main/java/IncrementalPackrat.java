public final class IncrementalPackrat {
    public static final int KIND_CHAR = 0;
    public static final int KIND_RANGE = 1;
    public static final int KIND_ANY = 2;
    public static final int KIND_RULE = 3;
    public static final int MODE_ONE = 0;
    public static final int MODE_OPT = 1;
    public static final int MODE_STAR = 2;
    public static final int MODE_PLUS = 3;
    public static final int MODE_AND = 4;
    public static final int MODE_NOT = 5;
    public static final int COMPILE_OK = 0;
    public static final int COMPILE_FROZEN = 1;
    public static final int COMPILE_BAD_REPEAT = 2;
    public static final int COMPILE_LEFT_RECURSION = 3;
    public static final int PARSE_FAIL = -1;
    public static final int PARSE_REFUSED = -2;
    public static final int MAX_ALTS = 16;
    public static final int MAX_ITEMS = 4;
    public static final int MAX_NODES = 64;

    private static final int NONE = -1;
    private static final int MAX_CHAR = 65535;
    private static final int MIN_RULES = 1;
    private static final int MAX_RULES = 8;
    private static final int MIN_CAPACITY = 8;
    private static final int MAX_CAPACITY = 24;
    private static final int ITEM_SLOTS = MAX_ALTS * MAX_ITEMS;
    // One more than the greatest text length: a parse may start at the text's end.
    private static final int POSITIONS = MAX_CAPACITY + 1;
    private static final int MEMO_SLOTS = MAX_RULES * POSITIONS;
    // A stored node costs the walk one step to be added, one for each item to be
    // left, and one to go back to its parent.
    private static final int WALK_STEPS = MAX_NODES * (MAX_ITEMS + 2);

    private final int ruleCount;
    private final int capacity;

    private boolean frozen = false;
    private int altCount = 0;
    private final int[] altRule = new int[MAX_ALTS];
    private final int[] altSize = new int[MAX_ALTS];

    // Every char base is kept as a range low..high; a rule base keeps its rule in low.
    private final boolean[] itemIsRule = new boolean[ITEM_SLOTS];
    private final int[] itemLow = new int[ITEM_SLOTS];
    private final int[] itemHigh = new int[ITEM_SLOTS];
    private final int[] itemMode = new int[ITEM_SLOTS];

    private final boolean[] ruleNullable = new boolean[MAX_RULES];
    private final boolean[] ruleOrdered = new boolean[MAX_RULES];
    private final int[] ruleOrder = new int[MAX_RULES];

    private int textSize = 0;
    private final char[] text = new char[MAX_CAPACITY];

    // M(r, p) at slot r * POSITIONS + p: its end (NONE for a failure), the greatest
    // position it examined, and the alternative it tried last: on a success, the winner.
    private final int[] memoEnd = new int[MEMO_SLOTS];
    private final int[] memoReach = new int[MEMO_SLOTS];
    private final int[] memoAlt = new int[MEMO_SLOTS];
    // The greatest position that the tests have examined since it was last reset.
    private int reach = NONE;

    private int outcomeReach = NONE;
    // At most MAX_NODES + 1, which stands for every greater count.
    private int outcomeNodes = 0;
    private final int[] treeRule = new int[MAX_NODES];
    private final int[] treeStart = new int[MAX_NODES];
    private final int[] treeEnd = new int[MAX_NODES];
    private final int[] treeParent = new int[MAX_NODES];
    // How far the walk has come in each node: the item it is at and where that goes on.
    private final int[] walkItem = new int[MAX_NODES];
    private final int[] walkPosition = new int[MAX_NODES];

    public IncrementalPackrat(int rules, int capacity) {
        this.ruleCount = clamp(rules, MIN_RULES, MAX_RULES);
        this.capacity = clamp(capacity, MIN_CAPACITY, MAX_CAPACITY);
    }

    public int newAlt(int r) {
        if (frozen || !isRule(r) || altCount >= MAX_ALTS) {
            return NONE;
        }
        int alt = altCount;
        altRule[alt] = r;
        altSize[alt] = 0;
        altCount = alt + 1;
        return alt;
    }

    public int addItem(int kind, int a, int b, int mode) {
        if (frozen || altCount == 0 || !isBase(kind, a, b)) {
            return NONE;
        }
        if (mode < MODE_ONE || mode > MODE_NOT) {
            return NONE;
        }
        int alt = altCount - 1;
        int index = altSize[alt];
        if (index >= MAX_ITEMS) {
            return NONE;
        }
        int item = alt * MAX_ITEMS + index;
        itemIsRule[item] = kind == KIND_RULE;
        itemLow[item] = kind == KIND_ANY ? 0 : a;
        itemHigh[item] = kind == KIND_ANY ? MAX_CHAR : kind == KIND_RANGE ? b : a;
        itemMode[item] = mode;
        altSize[alt] = index + 1;
        return index;
    }

    public int compile() {
        if (frozen) {
            return COMPILE_FROZEN;
        }
        markNullableRules();
        if (hasBadRepeat()) {
            return COMPILE_BAD_REPEAT;
        }
        if (!orderRules()) {
            return COMPILE_LEFT_RECURSION;
        }
        frozen = true;
        return COMPILE_OK;
    }

    public boolean isCompiled() {
        return frozen;
    }

    public boolean insertChar(int pos, char c) {
        if (pos < 0 || pos > textSize || textSize >= capacity) {
            return false;
        }
        for (int i = textSize; i > pos; i--) {
            text[i] = text[i - 1];
        }
        text[pos] = c;
        textSize++;
        forgetOutcome();
        return true;
    }

    public boolean deleteRange(int pos, int len) {
        if (!isTextRange(pos, len)) {
            return false;
        }
        closeGap(pos, len);
        forgetOutcome();
        return true;
    }

    public boolean replaceRange(int pos, int len, char c) {
        if (!isTextRange(pos, len)) {
            return false;
        }
        text[pos] = c;
        closeGap(pos + 1, len - 1);
        forgetOutcome();
        return true;
    }

    public int textLength() {
        return textSize;
    }

    public int charAt(int i) {
        if (i < 0 || i >= textSize) {
            return NONE;
        }
        return text[i];
    }

    public int parse(int r, int p) {
        if (!frozen || !isRule(r) || p < 0 || p > textSize) {
            return PARSE_REFUSED;
        }
        fillMemo(p);
        int slot = r * POSITIONS + p;
        outcomeReach = memoReach[slot];
        outcomeNodes = 0;
        if (memoEnd[slot] == NONE) {
            return PARSE_FAIL;
        }
        growTree(r, p);
        return memoEnd[slot];
    }

    public int furthest() {
        return outcomeReach;
    }

    public int nodeCount() {
        return outcomeNodes;
    }

    public int nodeRule(int i) {
        return isStoredNode(i) ? treeRule[i] : NONE;
    }

    public int nodeStart(int i) {
        return isStoredNode(i) ? treeStart[i] : NONE;
    }

    public int nodeEnd(int i) {
        return isStoredNode(i) ? treeEnd[i] : NONE;
    }

    public int nodeParent(int i) {
        return isStoredNode(i) ? treeParent[i] : NONE;
    }

    private static int clamp(int value, int least, int greatest) {
        if (value < least) {
            return least;
        }
        return value > greatest ? greatest : value;
    }

    private boolean isRule(int r) {
        return r >= 0 && r < ruleCount;
    }

    private boolean isBase(int kind, int a, int b) {
        switch (kind) {
            case KIND_CHAR:
                return a >= 0 && a <= MAX_CHAR;
            case KIND_RANGE:
                return a >= 0 && a <= b && b <= MAX_CHAR;
            case KIND_ANY:
                return true;
            case KIND_RULE:
                return isRule(a);
            default:
                return false;
        }
    }

    // Each round before the last one that changes something marks at least one rule
    // more, so as many rounds as there are rules reach the least solution.
    private void markNullableRules() {
        for (int r = 0; r < MAX_RULES; r++) {
            ruleNullable[r] = false;
        }
        for (int round = 0; round < ruleCount; round++) {
            for (int alt = 0; alt < altCount; alt++) {
                if (isAltNullable(alt)) {
                    ruleNullable[altRule[alt]] = true;
                }
            }
        }
    }

    private boolean isAltNullable(int alt) {
        for (int i = 0; i < altSize[alt]; i++) {
            if (!isItemNullable(alt * MAX_ITEMS + i)) {
                return false;
            }
        }
        return true;
    }

    private boolean isItemNullable(int item) {
        int mode = itemMode[item];
        if (mode == MODE_ONE || mode == MODE_PLUS) {
            return itemIsRule[item] && ruleNullable[itemLow[item]];
        }
        return true;
    }

    private boolean hasBadRepeat() {
        for (int alt = 0; alt < altCount; alt++) {
            for (int i = 0; i < altSize[alt]; i++) {
                int item = alt * MAX_ITEMS + i;
                if (isRepeat(item) && itemIsRule[item] && ruleNullable[itemLow[item]]) {
                    return true;
                }
            }
        }
        return false;
    }

    private boolean isRepeat(int item) {
        return itemMode[item] == MODE_STAR || itemMode[item] == MODE_PLUS;
    }

    // Puts every rule behind the rules it calls at start. That all rules find a place
    // is the same as that these calls form no cycle. Each round places at least one
    // rule if any can be placed.
    private boolean orderRules() {
        int placed = 0;
        for (int r = 0; r < MAX_RULES; r++) {
            ruleOrdered[r] = false;
        }
        for (int round = 0; round < ruleCount; round++) {
            for (int r = 0; r < ruleCount; r++) {
                if (!ruleOrdered[r] && areStartCallsOrdered(r)) {
                    ruleOrdered[r] = true;
                    ruleOrder[placed] = r;
                    placed++;
                }
            }
        }
        return placed == ruleCount;
    }

    private boolean areStartCallsOrdered(int r) {
        for (int alt = 0; alt < altCount; alt++) {
            if (altRule[alt] == r && !areAltStartCallsOrdered(alt)) {
                return false;
            }
        }
        return true;
    }

    private boolean areAltStartCallsOrdered(int alt) {
        for (int i = 0; i < altSize[alt]; i++) {
            int item = alt * MAX_ITEMS + i;
            if (itemIsRule[item] && !ruleOrdered[itemLow[item]]) {
                return false;
            }
            if (!isItemNullable(item)) {
                return true;
            }
        }
        return true;
    }

    private boolean isTextRange(int pos, int len) {
        // The order matters: textSize - pos can't overflow once pos is in 0..textSize.
        return pos >= 0 && pos <= textSize && len >= 1 && len <= textSize - pos;
    }

    private void closeGap(int pos, int len) {
        for (int i = pos + len; i < textSize; i++) {
            text[i - len] = text[i];
        }
        textSize -= len;
    }

    private void forgetOutcome() {
        outcomeReach = NONE;
        outcomeNodes = 0;
    }

    // M(r, p) rests only on later positions and, at p itself, on the rules that r calls
    // at start. From the text's end backward and in ruleOrder, all of that is filled
    // before it is read, so no recursion is needed.
    private void fillMemo(int first) {
        for (int p = textSize; p >= first; p--) {
            for (int k = 0; k < ruleCount; k++) {
                fillMemoSlot(ruleOrder[k], p);
            }
        }
    }

    private void fillMemoSlot(int r, int p) {
        int end = NONE;
        int tried = NONE;
        reach = NONE;
        for (int alt = 0; alt < altCount && end == NONE; alt++) {
            if (altRule[alt] == r) {
                end = altEnd(alt, p);
                tried = alt;
            }
        }
        int slot = r * POSITIONS + p;
        memoEnd[slot] = end;
        memoReach[slot] = reach;
        memoAlt[slot] = tried;
    }

    private int altEnd(int alt, int p) {
        int end = p;
        for (int i = 0; i < altSize[alt] && end != NONE; i++) {
            end = itemEnd(alt * MAX_ITEMS + i, end);
        }
        return end;
    }

    private int itemEnd(int item, int start) {
        // Every test of a repeat that succeeds moves on by at least one char, since
        // compile() refuses repeats of nullable rules: the one after textSize fails.
        int mostTests = isRepeat(item) ? textSize + 1 : 1;
        int passed = 0;
        int end = start;
        for (int t = 0; t < mostTests; t++) {
            int next = testEnd(item, end);
            if (next == NONE) {
                break;
            }
            end = next;
            passed++;
        }
        switch (itemMode[item]) {
            case MODE_OPT:
            case MODE_STAR:
                return end;
            case MODE_AND:
                return passed > 0 ? start : NONE;
            case MODE_NOT:
                return passed > 0 ? NONE : start;
            default:
                return passed > 0 ? end : NONE;
        }
    }

    private int testEnd(int item, int p) {
        int examined = p;
        int end = NONE;
        if (itemIsRule[item]) {
            int slot = itemLow[item] * POSITIONS + p;
            examined = memoReach[slot];
            end = memoEnd[slot];
        } else if (p < textSize && text[p] >= itemLow[item] && text[p] <= itemHigh[item]) {
            end = p + 1;
        }
        if (examined > reach) {
            reach = examined;
        }
        return end;
    }

    // Ends with the node after MAX_NODES at the latest: a tree can be far larger than
    // what is stored of it.
    private void growTree(int r, int p) {
        int node = addNode(r, p, NONE);
        for (int step = 0; step < WALK_STEPS && node != NONE && outcomeNodes <= MAX_NODES; step++) {
            node = walkOn(node);
        }
    }

    // One step of the walk; answers the node at which the walk goes on.
    private int walkOn(int node) {
        int alt = memoAlt[treeRule[node] * POSITIONS + treeStart[node]];
        if (walkItem[node] >= altSize[alt]) {
            return treeParent[node];
        }
        int item = alt * MAX_ITEMS + walkItem[node];
        if (givesNodes(item)) {
            return walkTest(node, item);
        }
        walkPosition[node] = itemEnd(item, walkPosition[node]);
        walkItem[node]++;
        return node;
    }

    private boolean givesNodes(int item) {
        return itemIsRule[item] && itemMode[item] != MODE_AND && itemMode[item] != MODE_NOT;
    }

    private int walkTest(int node, int item) {
        int start = walkPosition[node];
        int end = testEnd(item, start);
        if (end == NONE || !isRepeat(item)) {
            walkItem[node]++;
        }
        if (end == NONE) {
            return node;
        }
        walkPosition[node] = end;
        return addNode(itemLow[item], start, node);
    }

    private int addNode(int r, int p, int parent) {
        int node = outcomeNodes;
        outcomeNodes++;
        if (node < MAX_NODES) {
            treeRule[node] = r;
            treeStart[node] = p;
            treeEnd[node] = memoEnd[r * POSITIONS + p];
            treeParent[node] = parent;
            walkItem[node] = 0;
            walkPosition[node] = p;
        }
        return node;
    }

    private boolean isStoredNode(int i) {
        return i >= 0 && i < outcomeNodes && i < MAX_NODES;
    }
}
