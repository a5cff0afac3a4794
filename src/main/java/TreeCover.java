/** Rules that cover trees at least cost: costs, ways, the rules used, and how many states tell trees apart. */
public final class TreeCover {
    public static final int BAD_ARG = -1;
    public static final int FULL = -2;
    public static final int TOO_FEW = -3;
    public static final int NONE = -4;
    public static final int LARGE = -5;

    private static final int OPERATORS = 6;
    private static final int UNARY = 2;
    private static final int BINARY = 4;
    private static final int GOALS = 4;
    private static final int RULES = 10;
    private static final int DEAREST = 9;
    private static final int PATTERN_DEPTH = 6;
    private static final int PATTERN_NODES = 7;
    private static final int TREE_DEPTH = 8;
    private static final int TREE_NODES = 24;
    private static final int STATES = 20;

    // One row more than there may be states: the state that is one too many is held as well.
    private static final int STATE_ROWS = STATES + 1;
    private static final int ENTRIES = GOALS + RULES * PATTERN_NODES;
    private static final int TREE_CELLS = TREE_NODES * ENTRIES;
    private static final int STATE_CELLS = STATE_ROWS * ENTRIES;
    // Chain rules cost at least 1, so a least cover meets a goal once at most at each operator of the tree.
    private static final int COVER_RULES = TREE_NODES * GOALS;
    private static final int PENDING = TREE_NODES + 1;
    // A state's tree is at most 20 operators deep, each of which at most doubles the costs and adds 36: real
    // costs, and sums of two, stay below this; and the sum of two of these with a rule's cost doesn't wrap.
    private static final int ABSENT = 1 << 29;

    // The stack of patterns holds numbers of nodes; a node's symbol is an operator, or OPERATORS + goal.
    private final int[] patternStack = new int[PATTERN_DEPTH];
    private final int[] patternSymbol = new int[PATTERN_NODES];
    private final int[] patternFirst = new int[PATTERN_NODES];
    private final int[] patternLast = new int[PATTERN_NODES];
    private final int[] patternEntry = new int[PATTERN_NODES];
    private int patternDepth;
    private int patternNodes;

    private final int[] ruleLeft = new int[RULES];
    private final int[] ruleCost = new int[RULES];
    private final int[] ruleEntry = new int[RULES];
    // Where the entries of a rule begin, so that unrule can take them away with it.
    private final int[] ruleStart = new int[RULES];
    private int ruleCount;

    // Entries 0 to 3 are the goals; those of the rules' patterns follow, parts before wholes.
    private final int[] entryOperator = new int[ENTRIES];
    private final int[] entryFirst = new int[ENTRIES];
    private final int[] entryLast = new int[ENTRIES];
    private int entryCount = GOALS;

    private final int[] treeStack = new int[TREE_DEPTH];
    private final int[] treeOperator = new int[TREE_NODES];
    private final int[] treeFirst = new int[TREE_NODES];
    private final int[] treeLast = new int[TREE_NODES];
    private final int[] treeSize = new int[TREE_NODES];
    private int treeDepth;
    private int treeNodes;

    // Tables of rows, ENTRIES long each: a row per node of the trees, or per state.
    private final int[] treeCosts = new int[TREE_CELLS];
    private final int[] treeWays = new int[TREE_CELLS];
    private final int[] stateCosts = new int[STATE_CELLS];
    private int stateCount;

    private final int[] cover = new int[COVER_RULES];
    private int coverLength;
    private final int[] pendingEntry = new int[PENDING];
    private final int[] pendingNode = new int[PENDING];
    private int pendingCount;

    public TreeCover() {
    }

    public int goal(int g) {
        if (!isGoal(g)) {
            return BAD_ARG;
        }
        if (patternDepth >= PATTERN_DEPTH || patternNodes >= PATTERN_NODES) {
            return FULL;
        }
        pushPattern(OPERATORS + g, 0);
        return patternDepth;
    }

    public int pattern(int o) {
        if (!isOperator(o)) {
            return BAD_ARG;
        }
        int parts = partsOf(o);
        if (patternDepth < parts) {
            return TOO_FEW;
        }
        if (patternDepth - parts >= PATTERN_DEPTH || patternNodes >= PATTERN_NODES) {
            return FULL;
        }
        pushPattern(o, parts);
        return patternDepth;
    }

    public int rule(int g, int cost) {
        if (!isGoal(g) || cost < 0 || cost > DEAREST) {
            return BAD_ARG;
        }
        if (patternDepth != 1) {
            return TOO_FEW;
        }
        if (ruleCount >= RULES) {
            return FULL;
        }
        int root = patternStack[0];
        if (patternSymbol[root] >= OPERATORS && cost == 0) {
            return BAD_ARG;
        }
        ruleLeft[ruleCount] = g;
        ruleCost[ruleCount] = cost;
        ruleStart[ruleCount] = entryCount;
        addEntries();
        ruleEntry[ruleCount] = patternEntry[root];
        ruleCount++;
        clearPatterns();
        return ruleCount - 1;
    }

    public int unrule() {
        if (ruleCount == 0) {
            return NONE;
        }
        ruleCount--;
        entryCount = ruleStart[ruleCount];
        return ruleCount;
    }

    public int scrap() {
        int held = patternDepth;
        clearPatterns();
        return held;
    }

    public int tree(int o) {
        if (!isOperator(o)) {
            return BAD_ARG;
        }
        int parts = partsOf(o);
        if (treeDepth < parts) {
            return TOO_FEW;
        }
        if (treeDepth - parts >= TREE_DEPTH || treeNodes >= TREE_NODES) {
            return FULL;
        }
        pushTree(o, parts);
        return treeDepth;
    }

    public int fell() {
        int held = treeDepth;
        treeDepth = 0;
        treeNodes = 0;
        return held;
    }

    public int size() {
        if (treeDepth == 0) {
            return 0;
        }
        return treeSize[treeStack[treeDepth - 1]];
    }

    public int states() {
        collectStates();
        return stateCount > STATES ? LARGE : stateCount;
    }

    public int covering(int g) {
        if (!isGoal(g)) {
            return BAD_ARG;
        }
        collectStates();
        if (stateCount > STATES) {
            return LARGE;
        }
        int found = 0;
        for (int row = 0; row < stateCount; row++) {
            if (stateCosts[row * ENTRIES + g] != ABSENT) {
                found++;
            }
        }
        return found;
    }

    public int cost(int g) {
        if (!isGoal(g)) {
            return BAD_ARG;
        }
        int least = leastForTop(g);
        return least == ABSENT ? NONE : least;
    }

    public int goals() {
        int set = 0;
        for (int g = 0; g < GOALS; g++) {
            int least = leastForTop(g);
            if (least != ABSENT) {
                set += 1 << g;
            }
        }
        return set;
    }

    public boolean alike() {
        if (treeDepth < 2) {
            return false;
        }
        fillTreeCosts();
        return sameState(treeCosts, treeStack[treeDepth - 1], treeStack[treeDepth - 2]);
    }

    public int ways(int g) {
        if (!isGoal(g)) {
            return BAD_ARG;
        }
        int least = leastForTop(g);
        if (least == ABSENT) {
            return 0;
        }
        for (int node = 0; node < treeNodes; node++) {
            fillWays(node);
        }
        return treeWays[treeStack[treeDepth - 1] * ENTRIES + g];
    }

    public int used(int g, int i) {
        if (!isGoal(g)) {
            return BAD_ARG;
        }
        listCover(g);
        if (i < 0 || i >= coverLength) {
            return NONE;
        }
        return cover[i];
    }

    public int uses(int g) {
        if (!isGoal(g)) {
            return BAD_ARG;
        }
        listCover(g);
        return coverLength == 0 ? NONE : coverLength;
    }

    private static boolean isGoal(int g) {
        return g >= 0 && g < GOALS;
    }

    private static boolean isOperator(int o) {
        return o >= 0 && o < OPERATORS;
    }

    private static int partsOf(int operator) {
        if (operator >= BINARY) {
            return 2;
        }
        return operator >= UNARY ? 1 : 0;
    }

    private void pushPattern(int symbol, int parts) {
        int node = patternNodes;
        patternSymbol[node] = symbol;
        if (parts >= 1) {
            patternLast[node] = patternStack[patternDepth - 1];
        }
        if (parts == 2) {
            patternFirst[node] = patternStack[patternDepth - 2];
        }
        patternDepth -= parts;
        patternStack[patternDepth] = node;
        patternDepth++;
        patternNodes++;
    }

    private void clearPatterns() {
        patternDepth = 0;
        patternNodes = 0;
    }

    /** Takes all nodes: nodes go only when the stack is emptied, so all belong to its one pattern. */
    private void addEntries() {
        for (int node = 0; node < patternNodes; node++) {
            int symbol = patternSymbol[node];
            if (symbol >= OPERATORS) {
                patternEntry[node] = symbol - OPERATORS;
            } else {
                patternEntry[node] = entryCount;
                addEntry(node, symbol);
            }
        }
    }

    private void addEntry(int node, int operator) {
        int parts = partsOf(operator);
        entryOperator[entryCount] = operator;
        if (parts >= 1) {
            entryLast[entryCount] = patternEntry[patternLast[node]];
        }
        if (parts == 2) {
            entryFirst[entryCount] = patternEntry[patternFirst[node]];
        }
        entryCount++;
    }

    private void pushTree(int operator, int parts) {
        int node = treeNodes;
        treeOperator[node] = operator;
        treeSize[node] = 1;
        if (parts >= 1) {
            treeLast[node] = treeStack[treeDepth - 1];
            treeSize[node] += treeSize[treeLast[node]];
        }
        if (parts == 2) {
            treeFirst[node] = treeStack[treeDepth - 2];
            treeSize[node] += treeSize[treeFirst[node]];
        }
        treeDepth -= parts;
        treeStack[treeDepth] = node;
        treeDepth++;
        treeNodes++;
    }

    /** Also fills the costs of all trees, which the callers go on to use; ABSENT without a tree. */
    private int leastForTop(int g) {
        if (treeDepth == 0) {
            return ABSENT;
        }
        fillTreeCosts();
        return treeCosts[treeStack[treeDepth - 1] * ENTRIES + g];
    }

    /** Done anew for each question, because the rules may have changed since the trees were made. */
    private void fillTreeCosts() {
        for (int node = 0; node < treeNodes; node++) {
            fillCosts(treeCosts, node, treeOperator[node], treeFirst[node], treeLast[node]);
        }
    }

    /** The least costs for a tree, from the rows of its parts; a row that the operator has no part for isn't read. */
    private void fillCosts(int[] table, int row, int operator, int first, int last) {
        int parts = partsOf(operator);
        int base = row * ENTRIES;
        for (int g = 0; g < GOALS; g++) {
            table[base + g] = ABSENT;
        }
        for (int entry = GOALS; entry < entryCount; entry++) {
            int least = ABSENT;
            if (entryOperator[entry] == operator) {
                least = costOfParts(table, entry, parts, first, last);
            }
            table[base + entry] = least;
        }
        // A least cover uses each goal once at most here, so as many rounds as goals settle every chain.
        for (int round = 0; round < GOALS; round++) {
            applyRules(table, base);
        }
    }

    private int costOfParts(int[] table, int entry, int parts, int first, int last) {
        int sum = 0;
        if (parts >= 1) {
            sum += table[last * ENTRIES + entryLast[entry]];
        }
        if (parts == 2) {
            sum += table[first * ENTRIES + entryFirst[entry]];
        }
        return sum < ABSENT ? sum : ABSENT;
    }

    private void applyRules(int[] table, int base) {
        for (int r = 0; r < ruleCount; r++) {
            int least = ruleCost[r] + table[base + ruleEntry[r]];
            int left = base + ruleLeft[r];
            if (least < table[left]) {
                table[left] = least;
            }
        }
    }

    /** Whether a rule begins a least cover of its left at this node of the trees. */
    private boolean isLeast(int r, int node) {
        int base = node * ENTRIES;
        int least = treeCosts[base + ruleLeft[r]];
        return least != ABSENT && least == ruleCost[r] + treeCosts[base + ruleEntry[r]];
    }

    private void fillWays(int node) {
        int base = node * ENTRIES;
        for (int entry = GOALS; entry < entryCount; entry++) {
            int count = 0;
            if (treeCosts[base + entry] != ABSENT) {
                count = waysOfParts(entry, node);
            }
            treeWays[base + entry] = count;
        }
        // Costs fall along a least chain, so a goal is settled one round after the goals that it leads to,
        // whatever an earlier question has left here.
        for (int round = 0; round < GOALS; round++) {
            for (int g = 0; g < GOALS; g++) {
                treeWays[base + g] = waysOfRules(g, node);
            }
        }
    }

    private int waysOfParts(int entry, int node) {
        int parts = partsOf(entryOperator[entry]);
        int product = 1;
        if (parts >= 1) {
            product *= treeWays[treeLast[node] * ENTRIES + entryLast[entry]];
        }
        if (parts == 2) {
            product *= treeWays[treeFirst[node] * ENTRIES + entryFirst[entry]];
        }
        return product;
    }

    private int waysOfRules(int g, int node) {
        int sum = 0;
        for (int r = 0; r < ruleCount; r++) {
            if (ruleLeft[r] == g && isLeast(r, node)) {
                sum += treeWays[node * ENTRIES + ruleEntry[r]];
            }
        }
        return sum;
    }

    /**
     * Lists the first least cover of the top tree, or nothing if there is none. No cover by a goal is the
     * beginning of another, so taking the lowest rule at each place, from left to right, gives the first.
     */
    private void listCover(int g) {
        coverLength = 0;
        pendingCount = 0;
        int least = leastForTop(g);
        if (least == ABSENT) {
            return;
        }
        addPending(g, treeStack[treeDepth - 1]);
        // Each step ends with one node of the tree done.
        for (int step = 0; step < TREE_NODES && pendingCount > 0; step++) {
            pendingCount--;
            coverNode(pendingEntry[pendingCount], pendingNode[pendingCount]);
        }
    }

    private void coverNode(int from, int node) {
        int entry = from;
        for (int link = 0; link < GOALS && entry < GOALS; link++) {
            int r = lowestRule(entry, node);
            cover[coverLength] = r;
            coverLength++;
            entry = ruleEntry[r];
        }
        int parts = partsOf(treeOperator[node]);
        if (parts >= 1) {
            addPending(entryLast[entry], treeLast[node]);
        }
        // Added after the last part, so that it is taken before it.
        if (parts == 2) {
            addPending(entryFirst[entry], treeFirst[node]);
        }
    }

    private void addPending(int entry, int node) {
        pendingEntry[pendingCount] = entry;
        pendingNode[pendingCount] = node;
        pendingCount++;
    }

    /** A goal that covers the node always has such a rule; the 0 at the end only keeps the index in range. */
    private int lowestRule(int g, int node) {
        for (int r = 0; r < ruleCount; r++) {
            if (ruleLeft[r] == g && isLeast(r, node)) {
                return r;
            }
        }
        return 0;
    }

    /**
     * Finds the states of all trees, or one more than STATES of them. The state of a tree follows from its
     * operator and its parts' states, so one tree stands for all of its state: a row holds its least costs.
     */
    private void collectStates() {
        stateCount = 0;
        for (int operator = 0; operator < UNARY; operator++) {
            addState(operator, 0, 0);
        }
        for (int row = 0; row < stateCount && row < STATES; row++) {
            combineState(row);
        }
    }

    /** Puts operators above a state, alone and, on either side, with itself and with each state before it. */
    private void combineState(int row) {
        for (int operator = UNARY; operator < BINARY; operator++) {
            addState(operator, row, row);
        }
        for (int operator = BINARY; operator < OPERATORS; operator++) {
            for (int other = 0; other <= row; other++) {
                addState(operator, row, other);
                addState(operator, other, row);
            }
        }
    }

    private void addState(int operator, int first, int last) {
        if (stateCount >= STATE_ROWS) {
            return;
        }
        fillCosts(stateCosts, stateCount, operator, first, last);
        for (int row = 0; row < stateCount; row++) {
            if (sameState(stateCosts, row, stateCount)) {
                return;
            }
        }
        stateCount++;
    }

    private boolean sameState(int[] table, int one, int other) {
        int leastOfOne = leastOfRow(table, one);
        int leastOfOther = leastOfRow(table, other);
        for (int entry = 0; entry < entryCount; entry++) {
            int costOfOne = table[one * ENTRIES + entry];
            int costOfOther = table[other * ENTRIES + entry];
            if ((costOfOne == ABSENT) != (costOfOther == ABSENT)) {
                return false;
            }
            if (costOfOne != ABSENT && costOfOne - leastOfOne != costOfOther - leastOfOther) {
                return false;
            }
        }
        return true;
    }

    private int leastOfRow(int[] table, int row) {
        int least = ABSENT;
        for (int entry = 0; entry < entryCount; entry++) {
            int found = table[row * ENTRIES + entry];
            if (found < least) {
                least = found;
            }
        }
        return least;
    }
}
