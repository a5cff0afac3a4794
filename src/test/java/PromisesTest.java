/** For each promise of the document: ordinary inputs, the edges that it names, and wrong inputs. */
public final class PromisesTest {
    private static int wrong = 0;
    private static String promise = "";

    public static void main(String[] args) {
        newObject();
        goal();
        pattern();
        partsOfPatterns();
        rule();
        ruleOrder();
        unrule();
        scrap();
        tree();
        partsOfTrees();
        fell();
        size();
        states();
        statesAtTheLimit();
        covering();
        cost();
        goals();
        alike();
        ways();
        waysWrap();
        used();
        usedInDictionaryOrder();
        uses();
        orderAndLimits();
        refusedCallsChangeNothing();
        theExampleOfTheReadme();
        System.out.println(wrong == 0 ? "all answers are as due" : wrong + " answers are not as due");
        if (wrong != 0) {
            System.exit(1);
        }
    }

    private static final int[] NOT_GOALS = {-1, 4, 5, 6, 32, 256, 65536, Integer.MAX_VALUE, Integer.MIN_VALUE};
    private static final int[] NOT_OPERATORS = {-1, 6, 7, 9, 32, 256, 65536, Integer.MAX_VALUE, Integer.MIN_VALUE};

    private static void due(String call, long got, long want) {
        if (got != want) {
            wrong++;
            System.out.println(promise + ": " + call + " answered " + got + ", due is " + want);
        }
    }

    private static void due(String call, boolean got, boolean want) {
        due(call, got ? 1 : 0, want ? 1 : 0);
    }

    /** Pushes a pattern written parts first: digits are operators, letters a to d the goals 0 to 3. */
    private static void push(TreeCover x, String pattern) {
        for (char c : pattern.toCharArray()) {
            int answer = c >= 'a' ? x.goal(c - 'a') : x.pattern(c - '0');
            if (answer < 1) {
                due("push " + pattern, answer, 1);
            }
        }
    }

    private static int add(TreeCover x, int left, String pattern, int cost) {
        push(x, pattern);
        return x.rule(left, cost);
    }

    /** Pushes trees written parts first. */
    private static void grow(TreeCover x, String trees) {
        for (char c : trees.toCharArray()) {
            int answer = x.tree(c - '0');
            if (answer < 1) {
                due("grow " + trees, answer, 1);
            }
        }
    }

    private static int costOf(TreeCover x, int g, String tree) {
        x.fell();
        grow(x, tree);
        return x.cost(g);
    }

    private static String cover(TreeCover x, int g) {
        StringBuilder rules = new StringBuilder();
        for (int i = 0; i < x.uses(g); i++) {
            rules.append(x.used(g, i));
        }
        return rules.toString();
    }

    private static void dueCover(TreeCover x, int g, String want) {
        String got = cover(x, g);
        if (!got.equals(want)) {
            wrong++;
            System.out.println(promise + ": the cover by " + g + " is " + got + ", due is " + want);
        }
    }

    private static void newObject() {
        promise = "1 new object";
        TreeCover x = new TreeCover();
        due("unrule", x.unrule(), TreeCover.NONE);
        due("scrap", x.scrap(), 0);
        due("fell", x.fell(), 0);
        TreeCover y = new TreeCover();
        due("goal of one", x.goal(0), 1);
        due("goal of another", y.goal(0), 1);
        due("tree of one", x.tree(0), 1);
        due("size of another", y.size(), 0);
        due("rule of one", x.rule(1, 1), 0);
        due("unrule of another", y.unrule(), TreeCover.NONE);
    }

    private static void goal() {
        promise = "2 goal";
        TreeCover x = new TreeCover();
        for (int i = 1; i <= 6; i++) {
            due("goal", x.goal(i % 4), i);
        }
        due("goal, 6 on the stack", x.goal(0), TreeCover.FULL);
        for (int g : NOT_GOALS) {
            due("goal(" + g + "), full", x.goal(g), TreeCover.BAD_ARG);
        }
        due("pattern takes two", x.pattern(4), 5);
        due("goal, 7 nodes", x.goal(0), TreeCover.FULL);
        due("scrap", x.scrap(), 5);
        for (int g : NOT_GOALS) {
            due("goal(" + g + ")", x.goal(g), TreeCover.BAD_ARG);
        }
        push(x, "022222");
        due("goal, 6 nodes", x.goal(3), 2);
        due("goal, 7 nodes", x.goal(3), TreeCover.FULL);
        due("scrap", x.scrap(), 2);
        push(x, "00004");
        due("goal after 5 nodes", x.goal(0), 4);
        due("goal after 6 nodes", x.goal(0), 5);
        due("goal after 7 nodes", x.goal(0), TreeCover.FULL);
        due("scrap", x.scrap(), 5);
    }

    private static void pattern() {
        promise = "3 pattern";
        TreeCover x = new TreeCover();
        for (int o : NOT_OPERATORS) {
            due("pattern(" + o + ")", x.pattern(o), TreeCover.BAD_ARG);
        }
        for (int o = 2; o < 6; o++) {
            due("pattern, empty", x.pattern(o), TreeCover.TOO_FEW);
        }
        due("pattern(0)", x.pattern(0), 1);
        due("pattern(4), one", x.pattern(4), TreeCover.TOO_FEW);
        due("pattern(5), one", x.pattern(5), TreeCover.TOO_FEW);
        due("pattern(2)", x.pattern(2), 1);
        due("pattern(3)", x.pattern(3), 1);
        due("pattern(1)", x.pattern(1), 2);
        due("pattern(5)", x.pattern(5), 1);
        due("pattern(0)", x.pattern(0), 2);
        due("pattern(4)", x.pattern(4), 1);
        due("pattern(0), 7 nodes", x.pattern(0), TreeCover.FULL);
        due("pattern(2), 7 nodes", x.pattern(2), TreeCover.FULL);
        due("pattern(4), 7 nodes and one", x.pattern(4), TreeCover.TOO_FEW);
        due("pattern(6), 7 nodes", x.pattern(6), TreeCover.BAD_ARG);
        due("scrap", x.scrap(), 1);
        push(x, "abcdab");
        due("pattern(0), 6 on the stack", x.pattern(0), TreeCover.FULL);
        due("pattern(1), 6 on the stack", x.pattern(1), TreeCover.FULL);
        due("pattern(3), 6 on the stack", x.pattern(3), 6);
        due("pattern(3), 7 nodes", x.pattern(3), TreeCover.FULL);
        due("pattern(5), 7 nodes", x.pattern(5), TreeCover.FULL);
        due("pattern(0), 7 nodes", x.pattern(0), TreeCover.FULL);
        due("scrap", x.scrap(), 6);
        push(x, "012");
        due("pattern(5) with goals and operators", x.pattern(5), 1);
        due("scrap", x.scrap(), 1);
        for (int o : NOT_OPERATORS) {
            due("pattern(" + o + "), scrapped", x.pattern(o), TreeCover.BAD_ARG);
        }
    }

    private static void partsOfPatterns() {
        promise = "3 pattern, its parts";
        TreeCover x = new TreeCover();
        add(x, 0, "014", 1);
        add(x, 1, "015", 2);
        add(x, 2, "02", 3);
        add(x, 3, "0130424", 4);
        due("0 1 4", costOf(x, 0, "014"), 1);
        due("1 0 4", costOf(x, 0, "104"), TreeCover.NONE);
        due("0 1 5", costOf(x, 1, "015"), 2);
        due("1 0 5", costOf(x, 1, "105"), TreeCover.NONE);
        due("0 1 5 by 0", costOf(x, 0, "015"), TreeCover.NONE);
        due("0 2", costOf(x, 2, "02"), 3);
        due("1 2", costOf(x, 2, "12"), TreeCover.NONE);
        due("0 3", costOf(x, 2, "03"), TreeCover.NONE);
        due("the large one", costOf(x, 3, "0130424"), 4);
        due("the large one, turned", costOf(x, 3, "1304204"), TreeCover.NONE);
        due("the large one, otherwise", costOf(x, 3, "0120424"), TreeCover.NONE);
    }

    private static void rule() {
        promise = "4 rule";
        TreeCover x = new TreeCover();
        push(x, "0");
        for (int g : NOT_GOALS) {
            due("rule(" + g + ", 0)", x.rule(g, 0), TreeCover.BAD_ARG);
        }
        for (int c : new int[] {-1, 10, 11, 16, 256, Integer.MAX_VALUE, Integer.MIN_VALUE}) {
            due("rule(0, " + c + ")", x.rule(0, c), TreeCover.BAD_ARG);
        }
        due("rule(0, 0)", x.rule(0, 0), 0);
        due("scrap", x.scrap(), 0);
        due("rule, empty", x.rule(0, 0), TreeCover.TOO_FEW);
        push(x, "01");
        due("rule, two", x.rule(0, 0), TreeCover.TOO_FEW);
        due("scrap", x.scrap(), 2);
        push(x, "abcdab");
        due("rule, six", x.rule(3, 9), TreeCover.TOO_FEW);
        due("scrap", x.scrap(), 6);
        push(x, "a");
        due("rule, a goal for 0", x.rule(3, 0), TreeCover.BAD_ARG);
        due("rule, a goal for 1", x.rule(3, 1), 1);
        due("rule, its own goal for 0", add(x, 2, "c", 0), TreeCover.BAD_ARG);
        due("rule, its own goal for 9", x.rule(2, 9), 2);
        due("rule, an operator with a goal for 0", add(x, 1, "b2", 0), 3);
        due("cost by 0", costOf(x, 0, "0"), 0);
        due("cost by 3", x.cost(3), 1);
        due("seven nodes after a rule", add(x, 0, "0222222", 0), 4);
        due("seven nodes again", add(x, 0, "aa4a4a4", 0), 5);
    }

    private static void ruleOrder() {
        promise = "4 rule, order";
        TreeCover x = new TreeCover();
        for (int i = 0; i < 10; i++) {
            due("rule", add(x, i % 4, "aa5aa55", 9), i);
        }
        due("BAD_ARG before TOO_FEW", x.rule(0, 10), TreeCover.BAD_ARG);
        due("BAD_ARG before TOO_FEW", x.rule(4, 0), TreeCover.BAD_ARG);
        due("TOO_FEW before FULL", x.rule(0, 0), TreeCover.TOO_FEW);
        push(x, "a");
        due("FULL before BAD_ARG", x.rule(0, 0), TreeCover.FULL);
        due("FULL", x.rule(0, 1), TreeCover.FULL);
        due("BAD_ARG before FULL", x.rule(-1, 1), TreeCover.BAD_ARG);
        due("BAD_ARG before FULL", x.rule(0, -1), TreeCover.BAD_ARG);
        due("unrule", x.unrule(), 9);
        due("a goal for 0", x.rule(0, 0), TreeCover.BAD_ARG);
        due("the pattern stayed", x.rule(0, 1), 9);
        due("the stack is empty", x.scrap(), 0);
    }

    private static void unrule() {
        promise = "5 unrule";
        TreeCover x = new TreeCover();
        due("unrule", x.unrule(), TreeCover.NONE);
        add(x, 0, "0", 5);
        add(x, 0, "0", 3);
        add(x, 1, "02", 1);
        grow(x, "0");
        due("cost", x.cost(0), 3);
        due("states", x.states(), 3);
        due("unrule", x.unrule(), 2);
        due("states", x.states(), 2);
        due("unrule", x.unrule(), 1);
        due("cost", x.cost(0), 5);
        push(x, "1a");
        due("unrule", x.unrule(), 0);
        due("cost", x.cost(0), TreeCover.NONE);
        due("states", x.states(), 1);
        due("unrule", x.unrule(), TreeCover.NONE);
        due("the stack of patterns stays", x.scrap(), 2);
        due("the stack of trees stays", x.size(), 1);
        due("rule", add(x, 2, "0", 7), 0);
        due("cost", x.cost(2), 7);
        due("cost", x.cost(0), TreeCover.NONE);
        for (int i = 0; i < 20; i++) {
            due("rule again", add(x, 0, "0222222", 1), 1);
            due("unrule again", x.unrule(), 1);
        }
    }

    private static void scrap() {
        promise = "6 scrap";
        TreeCover x = new TreeCover();
        due("scrap", x.scrap(), 0);
        push(x, "0a5");
        due("scrap", x.scrap(), 1);
        due("scrap", x.scrap(), 0);
        due("pattern", x.pattern(2), TreeCover.TOO_FEW);
        push(x, "abcdab");
        due("scrap", x.scrap(), 6);
        push(x, "0222222");
        due("scrap", x.scrap(), 1);
        push(x, "0222222");
        grow(x, "00");
        due("scrap", x.scrap(), 1);
        due("the trees stay", x.fell(), 2);
        add(x, 0, "0", 1);
        due("scrap", x.scrap(), 0);
        due("the rules stay", x.unrule(), 0);
    }

    private static void tree() {
        promise = "7 tree";
        TreeCover x = new TreeCover();
        for (int o : NOT_OPERATORS) {
            due("tree(" + o + ")", x.tree(o), TreeCover.BAD_ARG);
        }
        for (int o = 2; o < 6; o++) {
            due("tree, empty", x.tree(o), TreeCover.TOO_FEW);
        }
        due("tree(1)", x.tree(1), 1);
        due("tree(4), one", x.tree(4), TreeCover.TOO_FEW);
        due("tree(5), one", x.tree(5), TreeCover.TOO_FEW);
        for (int i = 2; i <= 8; i++) {
            due("tree", x.tree(i % 2), i);
        }
        due("tree(0), 8 on the stack", x.tree(0), TreeCover.FULL);
        due("tree(1), 8 on the stack", x.tree(1), TreeCover.FULL);
        due("tree(6), 8 on the stack", x.tree(6), TreeCover.BAD_ARG);
        due("tree(2), 8 on the stack", x.tree(2), 8);
        due("tree(3), 8 on the stack", x.tree(3), 8);
        due("tree(5), 8 on the stack", x.tree(5), 7);
        due("tree(4), 7 on the stack", x.tree(4), 6);
        for (int i = 12; i < 24; i++) {
            due("tree(2)", x.tree(2), 6);
        }
        for (int o = 0; o < 6; o++) {
            due("tree, 24 operators", x.tree(o), TreeCover.FULL);
        }
        due("tree(-1), 24 operators", x.tree(-1), TreeCover.BAD_ARG);
        due("fell", x.fell(), 6);
        grow(x, "022222222222222222222222");
        due("tree(4), 24 operators and one", x.tree(4), TreeCover.TOO_FEW);
        due("tree(3), 24 operators and one", x.tree(3), TreeCover.FULL);
        due("tree(0), 24 operators and one", x.tree(0), TreeCover.FULL);
    }

    private static void partsOfTrees() {
        promise = "7 tree, its parts";
        TreeCover x = new TreeCover();
        add(x, 0, "0", 1);
        add(x, 1, "1", 2);
        add(x, 2, "ab4", 0);
        add(x, 3, "cb5", 0);
        due("left and right", costOf(x, 2, "014"), 3);
        due("right and left", costOf(x, 2, "104"), TreeCover.NONE);
        due("below each other", costOf(x, 3, "01415"), 5);
        due("on the wrong side", costOf(x, 3, "10145"), TreeCover.NONE);
        x.fell();
        grow(x, "1014");
        due("the top tree alone counts", x.cost(2), 3);
        due("tree takes the two on top", x.tree(5), 1);
        due("in their order", x.cost(3), TreeCover.NONE);
    }

    private static void fell() {
        promise = "8 fell";
        TreeCover x = new TreeCover();
        due("fell", x.fell(), 0);
        grow(x, "010101014");
        push(x, "0a");
        due("fell", x.fell(), 7);
        due("fell", x.fell(), 0);
        due("size", x.size(), 0);
        due("tree", x.tree(3), TreeCover.TOO_FEW);
        due("goals", x.goals(), 0);
        due("the patterns stay", x.scrap(), 2);
        add(x, 0, "0", 1);
        grow(x, "022222222222222222222222");
        due("fell, 24 operators", x.fell(), 1);
        due("cost", x.cost(0), TreeCover.NONE);
        grow(x, "0");
        due("the rules stay", x.cost(0), 1);
    }

    private static void size() {
        promise = "9 size";
        TreeCover x = new TreeCover();
        due("size", x.size(), 0);
        grow(x, "0");
        due("size", x.size(), 1);
        grow(x, "23");
        due("size", x.size(), 3);
        grow(x, "01");
        due("size of the top alone", x.size(), 1);
        grow(x, "4");
        due("size", x.size(), 3);
        grow(x, "5");
        due("size", x.size(), 7);
        grow(x, "22222222222222222");
        due("size", x.size(), 24);
    }

    private static void states() {
        promise = "10 states";
        TreeCover x = new TreeCover();
        due("no rule", x.states(), 1);
        add(x, 0, "0", 5);
        due("a leaf", x.states(), 2);
        add(x, 0, "1", 5);
        due("two leaves, told apart by their own entries", x.states(), 3);
        add(x, 0, "a2", 0);
        due("an operator of one part", x.states(), 4);
        add(x, 0, "a3", 9);
        due("by how much it is above the least", x.states(), 5);
        due("covering", x.covering(0), 4);
        TreeCover y = new TreeCover();
        add(y, 0, "014", 1);
        due("parts that aren't rules' patterns", y.states(), 4);
        due("covering", y.covering(0), 1);
        add(y, 1, "104", 1);
        due("the parts the other way round", y.states(), 5);
        add(y, 2, "114", 1);
        due("the same part twice", y.states(), 6);
        TreeCover z = new TreeCover();
        add(z, 0, "a", 1);
        add(z, 1, "a2", 0);
        add(z, 2, "abcd444", 3);
        due("nothing covers", z.states(), 1);
        TreeCover w = new TreeCover();
        add(w, 0, "0", 0);
        add(w, 0, "1", 0);
        add(w, 1, "0", 0);
        add(w, 1, "1", 0);
        add(w, 0, "a2", 0);
        add(w, 1, "b2", 1);
        due("distances that grow on and on", w.states(), TreeCover.LARGE);
        due("covering then", w.covering(3), TreeCover.LARGE);
        due("unrule", w.unrule(), 5);
        due("without them", w.states(), 4);
        grow(w, "0");
        due("a LARGE answer harms nothing", w.cost(0), 0);
    }

    /** A chain of operators of one part as long as the pattern allows, and branches, make a number of states. */
    private static void statesAtTheLimit() {
        promise = "10 states, at the limit";
        TreeCover x = new TreeCover();
        add(x, 0, "0222222", 0);
        due("7 and the rest", x.states(), 8);
        add(x, 0, "1222222", 0);
        due("14 and the rest", x.states(), 15);
        add(x, 0, "03333", 0);
        due("18 and the rest", x.states(), 19);
        add(x, 0, "13", 0);
        due("19 and the rest", x.states(), 20);
        due("covering", x.covering(0), 4);
        add(x, 0, "133", 0);
        due("20 and the rest", x.states(), TreeCover.LARGE);
        due("covering", x.covering(0), TreeCover.LARGE);
        due("covering(4)", x.covering(4), TreeCover.BAD_ARG);
        due("unrule", x.unrule(), 4);
        due("states", x.states(), 20);
        due("covering", x.covering(1), 0);
    }

    private static void covering() {
        promise = "11 covering";
        TreeCover x = new TreeCover();
        for (int g = 0; g < 4; g++) {
            due("no rule", x.covering(g), 0);
        }
        for (int g : NOT_GOALS) {
            due("covering(" + g + ")", x.covering(g), TreeCover.BAD_ARG);
        }
        add(x, 0, "0", 1);
        add(x, 1, "a", 1);
        add(x, 2, "b2", 1);
        due("states", x.states(), 3);
        due("covering(0)", x.covering(0), 1);
        due("covering(1)", x.covering(1), 1);
        due("covering(2)", x.covering(2), 1);
        due("covering(3)", x.covering(3), 0);
        add(x, 3, "0", 2);
        add(x, 3, "c", 2);
        due("covering(3)", x.covering(3), 2);
    }

    private static void cost() {
        promise = "12 cost";
        TreeCover x = new TreeCover();
        for (int g : NOT_GOALS) {
            due("cost(" + g + ")", x.cost(g), TreeCover.BAD_ARG);
        }
        due("no tree", x.cost(0), TreeCover.NONE);
        grow(x, "0");
        due("no rule", x.cost(0), TreeCover.NONE);
        add(x, 0, "b", 1);
        add(x, 1, "c", 2);
        add(x, 2, "d", 3);
        add(x, 3, "0", 4);
        due("a chain", x.cost(0), 10);
        due("a chain", x.cost(1), 9);
        due("a chain", x.cost(2), 7);
        due("its end", x.cost(3), 4);
        add(x, 3, "a", 1);
        due("a ring", x.cost(3), 4);
        add(x, 0, "0", 2);
        due("the cheaper", x.cost(0), 2);
        due("the cheaper, round the ring", x.cost(3), 3);
        add(x, 0, "aa4", 0);
        due("a rule used several times counts each time", costOf(x, 0, "0000444"), 8);
        add(x, 1, "aad44", 9);
        due("a pattern of many parts", costOf(x, 1, "00044"), 6 + 1 + 3 + 2);
        due("no cover", costOf(x, 0, "02"), TreeCover.NONE);
        due("no cover of a part", costOf(x, 0, "0204"), TreeCover.NONE);
        for (int g : NOT_GOALS) {
            due("cost(" + g + ") with a tree", x.cost(g), TreeCover.BAD_ARG);
        }
    }

    private static void goals() {
        promise = "13 goals";
        TreeCover x = new TreeCover();
        due("no tree", x.goals(), 0);
        grow(x, "0");
        due("no rule", x.goals(), 0);
        add(x, 3, "0", 9);
        due("goal 3", x.goals(), 8);
        add(x, 1, "0", 0);
        due("goals 1 and 3", x.goals(), 10);
        add(x, 0, "b", 9);
        add(x, 2, "a", 9);
        due("all", x.goals(), 15);
        add(x, 2, "d2", 9);
        grow(x, "2");
        due("goal 2", x.goals(), 4);
        grow(x, "2");
        due("none", x.goals(), 0);
        x.fell();
        due("no tree", x.goals(), 0);
    }

    private static void alike() {
        promise = "14 alike";
        TreeCover x = new TreeCover();
        due("no tree", x.alike(), false);
        grow(x, "0");
        due("one tree", x.alike(), false);
        grow(x, "1");
        due("no rule", x.alike(), true);
        add(x, 0, "0", 1);
        due("one covered, one not", x.alike(), false);
        add(x, 0, "1", 1);
        due("other entries", x.alike(), false);
        x.fell();
        add(x, 0, "a2", 3);
        grow(x, "0212");
        due("the same", x.alike(), true);
        grow(x, "22");
        due("the same, though they cost more", x.alike(), true);
        grow(x, "0");
        due("not the same", x.alike(), false);
        grow(x, "0");
        due("equal leaves", x.alike(), true);
        x.fell();
        add(x, 1, "a23", 0);
        grow(x, "02302223");
        due("the same below a longer pattern", x.alike(), true);
        x.fell();
        add(x, 2, "03", 5);
        add(x, 2, "a3", 5);
        grow(x, "0313");
        due("an entry inside one alone", x.alike(), false);
        x.fell();
        grow(x, "002");
        due("the top two alone", x.alike(), false);
        grow(x, "02");
        due("the top two alone", x.alike(), true);
        x.fell();
        add(x, 3, "0", 4);
        add(x, 3, "a2", 3);
        add(x, 3, "d3", 3);
        grow(x, "0212");
        due("the same, though one was covered by more below", x.alike(), true);
        TreeCover y = new TreeCover();
        add(y, 0, "0", 0);
        add(y, 1, "0", 7);
        add(y, 0, "a2", 0);
        add(y, 1, "b2", 1);
        grow(y, "0202");
        due("the same tree", y.alike(), true);
        grow(y, "2");
        due("the same entries, but other distances", y.alike(), false);
    }

    private static void ways() {
        promise = "15 ways";
        TreeCover x = new TreeCover();
        for (int g : NOT_GOALS) {
            due("ways(" + g + ")", x.ways(g), TreeCover.BAD_ARG);
        }
        due("no tree", x.ways(0), 0);
        grow(x, "0");
        due("no rule", x.ways(0), 0);
        add(x, 0, "0", 2);
        due("one", x.ways(0), 1);
        add(x, 0, "0", 2);
        due("two equal rules", x.ways(0), 2);
        add(x, 0, "0", 3);
        due("a dearer rule", x.ways(0), 2);
        add(x, 1, "a", 1);
        add(x, 1, "0", 3);
        due("by a goal or at once", x.ways(1), 3);
        add(x, 0, "b", 1);
        due("a ring is never the least", x.ways(0), 2);
        add(x, 0, "bb4", 0);
        x.fell();
        grow(x, "004");
        due("both parts", x.ways(0), 9);
        due("by a goal", x.ways(1), 9);
        due("no cover", x.ways(2), 0);
        x.fell();
        grow(x, "1");
        due("no cover", x.ways(0), 0);
        TreeCover y = new TreeCover();
        add(y, 0, "b", 3);
        add(y, 0, "c", 2);
        add(y, 0, "d", 1);
        add(y, 1, "0", 0);
        add(y, 2, "b", 1);
        add(y, 3, "c", 1);
        add(y, 3, "b", 2);
        grow(y, "0");
        due("chains of all lengths", y.ways(0), 4);
    }

    private static void waysWrap() {
        promise = "15 ways, wrapping";
        TreeCover x = new TreeCover();
        for (int i = 0; i < 5; i++) {
            add(x, 0, "0", 0);
            add(x, 0, "a2", 0);
        }
        grow(x, "022222222222222222222222");
        long all = 1;
        for (int i = 0; i < 24; i++) {
            all *= 5;
        }
        due("5 to the power 24", x.ways(0), (int) all);
        TreeCover y = new TreeCover();
        for (int i = 0; i < 4; i++) {
            add(y, 0, "0", 0);
            add(y, 0, "a2", 0);
        }
        grow(y, "022222222222222");
        due("2 to the power 30", y.ways(0), 1 << 30);
        grow(y, "2");
        due("2 to the power 32", y.ways(0), 0);
        due("there is a cover all the same", y.cost(0), 0);
        due("uses", y.uses(0), 16);
        due("used", y.used(0, 15), 0);
        due("used", y.used(0, 0), 1);
        due("goals", y.goals(), 1);
        y.unrule();
        y.unrule();
        add(y, 0, "0", 0);
        add(y, 1, "a2", 0);
        add(y, 1, "a2", 0);
        y.fell();
        grow(y, "0222222222222222222222");
        due("3 to 20 by 4 and by 2", y.ways(1), (int) (3486784401L * 4 * 2));
    }

    private static void used() {
        promise = "16 used";
        TreeCover x = new TreeCover();
        for (int g : NOT_GOALS) {
            due("used(" + g + ", 0)", x.used(g, 0), TreeCover.BAD_ARG);
            due("used(" + g + ", -1)", x.used(g, -1), TreeCover.BAD_ARG);
        }
        due("no tree", x.used(0, 0), TreeCover.NONE);
        grow(x, "0");
        due("no rule", x.used(0, 0), TreeCover.NONE);
        add(x, 0, "0", 1);
        add(x, 1, "1", 1);
        add(x, 2, "ab4", 1);
        add(x, 2, "c", 1);
        add(x, 3, "ccb55", 0);
        x.fell();
        grow(x, "014");
        dueCover(x, 2, "201");
        for (int i : new int[] {-1, 3, 4, 24, 95, 96, 1000, Integer.MAX_VALUE, Integer.MIN_VALUE}) {
            due("used(2, " + i + ")", x.used(2, i), TreeCover.NONE);
        }
        grow(x, "014155");
        due("uses", x.uses(3), 8);
        dueCover(x, 3, "42012011");
        due("no cover", x.used(0, 0), TreeCover.NONE);
        due("after one that is, none", x.used(1, 0), TreeCover.NONE);
    }

    private static void usedInDictionaryOrder() {
        promise = "16 used, the first as in a dictionary";
        TreeCover x = new TreeCover();
        add(x, 0, "b", 1);
        add(x, 1, "0", 1);
        add(x, 0, "0", 2);
        add(x, 1, "0", 1);
        grow(x, "0");
        dueCover(x, 0, "01");
        due("ways", x.ways(0), 3);
        TreeCover y = new TreeCover();
        add(y, 0, "0", 2);
        add(y, 1, "0", 1);
        add(y, 0, "b", 1);
        add(y, 2, "ba4", 4);
        add(y, 2, "aa4", 3);
        add(y, 2, "004", 7);
        add(y, 2, "a04", 5);
        grow(y, "004");
        due("cost", y.cost(2), 7);
        dueCover(y, 2, "310");
        due("ways", y.ways(2), 2 + 4 + 1 + 2);
        TreeCover z = new TreeCover();
        add(z, 0, "0", 9);
        add(z, 0, "b", 1);
        add(z, 1, "0", 2);
        grow(z, "0");
        dueCover(z, 0, "12");
    }

    private static void uses() {
        promise = "17 uses";
        TreeCover x = new TreeCover();
        for (int g : NOT_GOALS) {
            due("uses(" + g + ")", x.uses(g), TreeCover.BAD_ARG);
        }
        due("no tree", x.uses(0), TreeCover.NONE);
        grow(x, "0");
        due("no rule", x.uses(0), TreeCover.NONE);
        add(x, 0, "b", 1);
        add(x, 1, "c", 1);
        add(x, 2, "d", 1);
        add(x, 3, "0", 0);
        add(x, 3, "a2", 0);
        add(x, 3, "aa4", 9);
        due("a chain", x.uses(0), 4);
        due("its end", x.uses(3), 1);
        grow(x, "22222222222222222222222");
        due("size", x.size(), 24);
        due("the longest cover", x.uses(0), 96);
        due("its cost", x.cost(0), 72);
        due("its last rule", x.used(0, 95), 3);
        due("beyond it", x.used(0, 96), TreeCover.NONE);
        due("ways", x.ways(0), 1);
        due("from the end of the chain", x.uses(3), 93);
        x.fell();
        grow(x, "00000000444444422222222");
        due("size", x.size(), 23);
        due("branches", x.uses(0), 92);
        due("last", x.used(0, 91), 3);
        x.fell();
        grow(x, "1");
        due("no cover", x.uses(0), TreeCover.NONE);
    }

    private static void orderAndLimits() {
        promise = "18 order and limits";
        TreeCover x = new TreeCover();
        for (int round = 0; round < 2; round++) {
            for (int g : NOT_GOALS) {
                due("cost(" + g + ")", x.cost(g), TreeCover.BAD_ARG);
                due("ways(" + g + ")", x.ways(g), TreeCover.BAD_ARG);
                due("used(" + g + ", 0)", x.used(g, 0), TreeCover.BAD_ARG);
                due("used(" + g + ", 99)", x.used(g, 99), TreeCover.BAD_ARG);
                due("uses(" + g + ")", x.uses(g), TreeCover.BAD_ARG);
                due("covering(" + g + ")", x.covering(g), TreeCover.BAD_ARG);
            }
            for (int g = 0; g < 4; g++) {
                due("cost(" + g + ")", x.cost(g), TreeCover.NONE);
                due("ways(" + g + ")", x.ways(g), 0);
                due("used(" + g + ", 0)", x.used(g, 0), TreeCover.NONE);
                due("uses(" + g + ")", x.uses(g), TreeCover.NONE);
            }
            add(x, 0, "0", 1);
        }
    }

    private static void refusedCallsChangeNothing() {
        promise = "terms, refused calls change nothing";
        TreeCover x = new TreeCover();
        add(x, 0, "0", 1);
        add(x, 0, "1", 2);
        add(x, 1, "aa4", 3);
        push(x, "ab");
        grow(x, "01");
        for (int i = 0; i < 3; i++) {
            due("goal", x.goal(4), TreeCover.BAD_ARG);
            due("pattern", x.pattern(6), TreeCover.BAD_ARG);
            due("rule", x.rule(0, 1), TreeCover.TOO_FEW);
            due("rule", x.rule(4, 1), TreeCover.BAD_ARG);
            due("tree", x.tree(-1), TreeCover.BAD_ARG);
            due("cost", x.cost(4), TreeCover.BAD_ARG);
        }
        due("the patterns stayed", x.pattern(5), 1);
        due("the rules stayed", x.rule(2, 0), 3);
        due("the trees stayed", x.tree(4), 1);
        due("cost", x.cost(1), 6);
        grow(x, "0");
        due("alike", x.alike(), false);
        due("the trees stayed", x.fell(), 2);
        due("the rules stayed", x.unrule(), 3);
        push(x, "abcdab");
        due("goal", x.goal(0), TreeCover.FULL);
        due("pattern", x.pattern(0), TreeCover.FULL);
        due("the last part is still the goal 1", x.pattern(4), 5);
        due("the patterns stayed", x.scrap(), 5);
        push(x, "b");
        due("rule", x.rule(3, 0), TreeCover.BAD_ARG);
        due("rule", x.rule(3, 1), 3);
        grow(x, "014");
        due("cost", x.cost(3), 7);
    }

    private static void theExampleOfTheReadme() {
        promise = "README.md";
        TreeCover x = new TreeCover();
        due("pattern(0)", x.pattern(0), 1);
        due("rule(0, 1)", x.rule(0, 1), 0);
        due("goal(0)", x.goal(0), 1);
        due("goal(0)", x.goal(0), 2);
        due("pattern(4)", x.pattern(4), 1);
        due("rule(0, 3)", x.rule(0, 3), 1);
        due("tree(0)", x.tree(0), 1);
        due("tree(0)", x.tree(0), 2);
        due("tree(4)", x.tree(4), 1);
        due("size()", x.size(), 3);
        due("cost(0)", x.cost(0), 5);
        due("cost(1)", x.cost(1), TreeCover.NONE);
        due("goals()", x.goals(), 1);
        due("ways(0)", x.ways(0), 1);
        due("uses(0)", x.uses(0), 3);
        due("used(0, 0)", x.used(0, 0), 1);
        due("used(0, 2)", x.used(0, 2), 0);
        due("states()", x.states(), 3);
        due("covering(0)", x.covering(0), 2);
        due("tree(1)", x.tree(1), 2);
        due("alike()", x.alike(), false);
        due("unrule()", x.unrule(), 1);
        due("states()", x.states(), 2);
        due("alike()", x.alike(), true);
    }
}
