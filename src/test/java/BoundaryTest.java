/**
 * For each sentence of the document that names a boundary case a test of its own, headed by the sentence. That a
 * refused call changes nothing is looked at here where a sentence is about it, and everywhere in RefusalTest.
 */
public final class BoundaryTest {
    /** The document's numbers, written again, so that a constant that is wrong is seen. */
    private static final int BAD_ARG = -1;
    private static final int FULL = -2;
    private static final int TOO_FEW = -3;
    private static final int NONE = -4;
    private static final int LARGE = -5;

    private static final int MIN = Integer.MIN_VALUE;
    private static final int MAX = Integer.MAX_VALUE;
    private static final int[] NOT_GOALS = {MIN, MIN + 1, MIN + 3, -65536, -256, -4, -3, -2, -1,
        4, 5, 6, 7, 8, 32, 256, 259, 65536, 65539, MAX - 3, MAX - 1, MAX};
    private static final int[] NOT_OPERATORS = {MIN, MIN + 1, MIN + 5, -65536, -256, -6, -2, -1,
        6, 7, 8, 10, 32, 256, 261, 65536, 65541, MAX - 5, MAX - 1, MAX};
    private static final int[] NOT_COSTS = {MIN, MIN + 1, MIN + 9, -65536, -256, -10, -2, -1,
        10, 11, 16, 19, 256, 265, 65536, 65545, MAX - 9, MAX - 1, MAX};
    private static final int[] PARTS = {0, 0, 1, 1, 2, 2};
    private static final String ALL_24 = "022222222222222222222222";

    private static int wrong = 0;
    private static int answers = 0;
    private static String sentence = "";

    /** One object; each answer is compared with the one that is due. */
    private static final class Run {
        private static final int MOST_CALLS = 512;
        private final TreeCover x = new TreeCover();
        private int calls = 0;
        private int patterns = 0;
        private int trees = 0;
        private int rules = 0;

        private void due(String call, int got, int due) {
            calls++;
            answers++;
            if (calls > MOST_CALLS) {
                fault(call + " is call " + calls + " of its object, whose answer is free");
            }
            if (got != due) {
                fault(call + " answered " + got + ", due is " + due);
            }
        }

        private static void fault(String text) {
            wrong++;
            System.out.println(sentence + ": " + text);
        }

        void goal(int g, int due) {
            due("goal(" + g + ")", x.goal(g), due);
            patterns = due > 0 ? due : patterns;
        }

        void pattern(int o, int due) {
            due("pattern(" + o + ")", x.pattern(o), due);
            patterns = due > 0 ? due : patterns;
        }

        void rule(int g, int cost, int due) {
            due("rule(" + g + ", " + cost + ")", x.rule(g, cost), due);
            patterns = due >= 0 ? 0 : patterns;
            rules = due >= 0 ? due + 1 : rules;
        }

        void unrule(int due) {
            due("unrule()", x.unrule(), due);
            rules = due >= 0 ? due : rules;
        }

        void scrap(int due) {
            due("scrap()", x.scrap(), due);
            patterns = 0;
        }

        void tree(int o, int due) {
            due("tree(" + o + ")", x.tree(o), due);
            trees = due > 0 ? due : trees;
        }

        void fell(int due) {
            due("fell()", x.fell(), due);
            trees = 0;
        }

        void size(int due) {
            due("size()", x.size(), due);
        }

        void states(int due) {
            due("states()", x.states(), due);
        }

        void covering(int g, int due) {
            due("covering(" + g + ")", x.covering(g), due);
        }

        void cost(int g, int due) {
            due("cost(" + g + ")", x.cost(g), due);
        }

        void goals(int due) {
            due("goals()", x.goals(), due);
        }

        void alike(boolean due) {
            due("alike()", x.alike() ? 1 : 0, due ? 1 : 0);
        }

        void ways(int g, int due) {
            due("ways(" + g + ")", x.ways(g), due);
        }

        void used(int g, int i, int due) {
            due("used(" + g + ", " + i + ")", x.used(g, i), due);
        }

        void uses(int g, int due) {
            due("uses(" + g + ")", x.uses(g), due);
        }

        /** Patterns written parts first: digits are operators, letters a to d the goals 0 to 3. */
        void patterns(String word) {
            for (char c : word.toCharArray()) {
                if (c >= 'a') {
                    goal(c - 'a', patterns + 1);
                } else {
                    pattern(c - '0', patterns + 1 - PARTS[c - '0']);
                }
            }
        }

        void add(int left, String word, int cost) {
            patterns(word);
            rule(left, cost, rules);
        }

        /** Trees written parts first. */
        void trees(String word) {
            for (char c : word.toCharArray()) {
                tree(c - '0', trees + 1 - PARTS[c - '0']);
            }
        }

        /** These trees alone. */
        void fresh(String word) {
            fell(trees);
            trees(word);
        }

        /** The first of the least covers, each rule by a digit. */
        void cover(int g, String due) {
            uses(g, due.length());
            for (int i = 0; i < due.length(); i++) {
                used(g, i, due.charAt(i) - '0');
            }
            used(g, due.length(), NONE);
        }

        void noCover(int g) {
            cost(g, NONE);
            ways(g, 0);
            used(g, 0, NONE);
            uses(g, NONE);
        }
    }

    private static Run run(String text) {
        sentence = text;
        return new Run();
    }

    public static void main(String[] args) {
        beforeThePromises();
        promises1To6();
        promises7To9();
        promises10To14();
        promises15To18();
        System.out.println(answers + " answers looked at");
        System.out.println(wrong == 0 ? "all answers are as due" : wrong + " answers are not as due");
        if (wrong != 0) {
            System.exit(1);
        }
    }

    private static void beforeThePromises() {
        theConstants();
        goodUpToItsLastCall();
        operatorsHaveTheirParts();
        goalsAre0To3();
        atMostTenRules();
        costsAre0To9();
        coversPartsOneByOne();
        aPatternThatIsAGoal();
        aRuleCountsEachTime();
        thereMayBeNoCover();
        entriesStandInRules();
        statesAreDistances();
    }

    private static void promises1To6() {
        aNewObject();
        goalOutOfRange();
        goalOnAStackThatHoldsSix();
        goalOnSevenOperatorsAndGoals();
        goalOrder();
        patternOutOfRange();
        patternTooFew();
        patternMoreThanSix();
        patternOnSevenOperatorsAndGoals();
        patternOrder();
        patternTakesTheTopAsItsLastPart();
        ruleOutOfRange();
        ruleNeedsExactlyOne();
        ruleAtTenRules();
        ruleOfAGoalForNothing();
        ruleOrder();
        ruleEmptiesTheStack();
        unruleNone();
        unruleTakesTheLast();
        scrapEmptyAndFull();
    }

    private static void promises7To9() {
        treeOutOfRange();
        treeTooFew();
        treeMoreThanEight();
        treeOn24Operators();
        treeOrder();
        treeTakesTheTopAsItsLastPart();
        fellEmptyAndFull();
        sizeOfNoneAndOfTheLargest();
    }

    private static void promises10To14() {
        statesWithoutRules();
        statesOneShortOfLarge();
        statesWithoutEnd();
        statesOfTreesThatNoStackHolds();
        statesWhateverIsOnTheStacks();
        statesByDistance();
        coveringLargeAndOutOfRange();
        costNone();
        costLeastAndGreatest();
        goalsEachSet();
        alikeFewerThanTwo();
        alikeTheTwoTopTrees();
    }

    private static void promises15To18() {
        waysNone();
        waysAtTheEndOfInt();
        waysWrapToNothing();
        waysWrapInProductsAndSums();
        usedOutOfTheCover();
        usedTheFirstAsInADictionary();
        usesNoneAndTheMost();
        theGoalIsTestedFirst();
        everythingFull();
        everythingFullAndLarge();
    }

    // What it is, and the terms.

    private static void theConstants() {
        Run x = run("the constants");
        x.due("BAD_ARG", TreeCover.BAD_ARG, BAD_ARG);
        x.due("FULL", TreeCover.FULL, FULL);
        x.due("TOO_FEW", TreeCover.TOO_FEW, TOO_FEW);
        x.due("NONE", TreeCover.NONE, NONE);
        x.due("LARGE", TreeCover.LARGE, LARGE);
    }

    private static void goodUpToItsLastCall() {
        Run x = run("an object is used for at most 512 calls, here with patterns, rules and trees");
        for (int i = 0; i < 40; i++) {
            x.patterns("0222222");
            x.rule(0, 9, 0);
            x.unrule(0);
        }
        x.add(0, "0", 3);
        x.add(0, "a2", 4);
        x.trees(ALL_24);
        for (int i = 0; i < 30; i++) {
            x.tree(2, FULL);
        }
        x.size(24);
        x.fresh("02");
        while (x.calls < Run.MOST_CALLS - 4) {
            x.cost(0, 7);
        }
        x.ways(0, 1);
        x.uses(0, 2);
        x.used(0, 1, 0);
        x.states(3);
        Run y = run("an object is used for at most 512 calls, here for goals and scrap");
        while (y.calls < Run.MOST_CALLS) {
            y.patterns("abcdab");
            y.goal(2, FULL);
            y.scrap(6);
        }
        Run z = run("an object is used for at most 512 calls, here for trees and fell");
        while (z.calls < Run.MOST_CALLS) {
            z.trees("000000004444444222222222");
            z.tree(3, FULL);
            z.tree(0, FULL);
            z.size(24);
            z.states(1);
            z.fell(1);
            z.size(0);
            z.alike(false);
            z.fell(0);
        }
    }

    private static void operatorsHaveTheirParts() {
        for (int o = 0; o < 6; o++) {
            for (int held = 0; held < 5; held++) {
                Run x = run("operators 0 and 1 have no part, 2 and 3 one, 4 and 5 two");
                int due = held < PARTS[o] ? TOO_FEW : held - PARTS[o] + 1;
                x.patterns("abcd".substring(0, held));
                x.pattern(o, due);
                x.scrap(due == TOO_FEW ? held : due);
                x.trees("0101".substring(0, held));
                x.tree(o, due);
                x.fell(due == TOO_FEW ? held : due);
            }
        }
    }

    private static void goalsAre0To3() {
        for (int g = 0; g < 4; g++) {
            Run x = run("goals are 0 to 3");
            x.add(g, "0", 5);
            x.add(g, (char) ('a' + g) + "2", 2);
            x.trees("02");
            for (int h = 0; h < 4; h++) {
                if (h != g) {
                    x.noCover(h);
                    x.covering(h, 0);
                }
            }
            x.cost(g, 7);
            x.ways(g, 1);
            x.cover(g, "10");
            x.goals(1 << g);
            x.covering(g, 2);
        }
    }

    private static void atMostTenRules() {
        Run x = run("there are at most 10 rules, numbered from 0 on");
        for (int r = 0; r < 10; r++) {
            x.pattern(0, 1);
            x.rule(0, 9 - r, r);
        }
        x.pattern(0, 1);
        x.rule(0, 0, FULL);
        x.scrap(1);
        x.trees("0");
        for (int r = 9; r >= 0; r--) {
            x.cost(0, 9 - r);
            x.ways(0, 1);
            x.cover(0, "" + r);
            x.unrule(r);
        }
        x.noCover(0);
        x.pattern(0, 1);
        x.rule(0, 4, 0);
    }

    private static void costsAre0To9() {
        for (int c = 0; c < 10; c++) {
            Run x = run("a cost is 0 to 9, but at least 1 if the pattern is a goal");
            x.pattern(0, 1);
            x.rule(0, c, 0);
            x.goal(0, 1);
            x.rule(1, c, c == 0 ? BAD_ARG : 1);
            x.trees("0");
            x.cost(0, c);
            x.cost(1, c == 0 ? NONE : 2 * c);
        }
    }

    private static void coversPartsOneByOne() {
        Run x = run("an operator covers a tree with the same operator at its top if its parts cover the tree's parts");
        x.add(0, "02", 1);
        x.add(1, "014", 2);
        x.add(2, "0130424", 3);
        x.trees("02");
        x.goals(1);
        x.cost(0, 1);
        x.fresh("014");
        x.goals(2);
        x.cost(1, 2);
        x.fresh("0130424");
        x.goals(4);
        x.cost(2, 3);
        String[] not = {"0", "1", "03", "12", "022", "015", "104", "004", "114", "0130425", "0130434", "0130524",
            "0120424", "0030424", "0131424", "1130424", "0013424", "1304204"};
        for (String tree : not) {
            x.fresh(tree);
            x.goals(0);
        }
    }

    private static void aPatternThatIsAGoal() {
        Run x = run("a pattern that is a goal covers a tree as the goal does");
        x.add(1, "a", 1);
        x.add(0, "a", 1);
        x.trees("0");
        x.noCover(0);
        x.noCover(1);
        x.add(0, "0", 2);
        x.cost(1, 3);
        x.cover(1, "02");
        x.ways(1, 1);
        x.ways(0, 1);
        x.fresh("1");
        x.noCover(0);
        x.noCover(1);
        x.states(2);
        x.covering(1, 1);
    }

    private static void aRuleCountsEachTime() {
        Run x = run("a rule that is used several times counts each time");
        x.add(0, "0", 9);
        x.add(0, "aa4", 9);
        x.trees("00404040404040404040404");
        x.size(23);
        x.cost(0, 9 * 23);
        x.uses(0, 23);
        x.ways(0, 1);
    }

    private static void thereMayBeNoCover() {
        Run x = run("there may be no cover");
        x.add(0, "b", 1);
        x.add(1, "c", 1);
        x.add(2, "a", 1);
        x.add(0, "a2", 0);
        x.add(3, "bc4", 0);
        x.trees("0");
        for (int g = 0; g < 4; g++) {
            x.noCover(g);
            x.covering(g, 0);
        }
        x.goals(0);
        x.states(1);
        x.trees("02");
        x.alike(true);
    }

    private static void entriesStandInRules() {
        Run x = run("an entry is an operator that stands in a rule's pattern, or is it");
        x.trees("01");
        x.patterns("0");
        x.alike(true);
        x.states(1);
        x.rule(0, 0, 0);
        x.alike(false);
        x.states(2);
        x.unrule(0);
        x.alike(true);
        x.states(1);
        x.add(0, "014", 0);
        x.alike(false);
        x.states(4);
        x.unrule(0);
        x.add(0, "023", 0);
        x.alike(false);
        x.states(4);
        x.fresh("0212");
        x.alike(false);
        x.fresh("112");
        x.alike(true);
        x.fresh("023123");
        x.alike(false);
        x.fresh("022123");
        x.alike(true);
    }

    private static void statesAreDistances() {
        Run x = run("a state says by how much each least cost is above the least one, or that there is none");
        x.add(0, "0", 0);
        x.trees("102");
        x.alike(true);
        x.trees("0");
        x.alike(false);
        x.add(1, "0", 9);
        x.add(0, "a2", 5);
        x.add(1, "b2", 5);
        x.add(0, "a3", 5);
        x.add(1, "b3", 4);
        x.fresh("02022");
        x.cost(0, 10);
        x.alike(true);
        x.fresh("02202222");
        x.alike(true);
        x.fresh("032022");
        x.alike(false);
        x.fresh("032032");
        x.alike(true);
    }

    // Promise 1.

    private static void aNewObject() {
        String text = "a new object: no rule; both stacks are empty";
        for (int o = 2; o < 6; o++) {
            run(text).pattern(o, TOO_FEW);
            run(text).tree(o, TOO_FEW);
        }
        for (int o = 0; o < 2; o++) {
            run(text).pattern(o, 1);
            run(text).tree(o, 1);
        }
        for (int g = 0; g < 4; g++) {
            run(text).goal(g, 1);
            run(text).rule(g, 1, TOO_FEW);
            run(text).covering(g, 0);
            run(text).cost(g, NONE);
            run(text).ways(g, 0);
            run(text).used(g, 0, NONE);
            run(text).uses(g, NONE);
        }
        run(text).unrule(NONE);
        run(text).scrap(0);
        run(text).fell(0);
        run(text).size(0);
        run(text).states(1);
        run(text).goals(0);
        run(text).alike(false);
        Run x = run(text);
        x.add(0, "0", 1);
        x.patterns("ab");
        x.trees("01");
        Run y = run(text + ", whatever another holds");
        y.unrule(NONE);
        y.scrap(0);
        y.fell(0);
        y.states(1);
        x.unrule(0);
        x.scrap(2);
        x.fell(2);
    }

    // Promises 2 and 3. Stacks of each height and with each number of operators and goals.

    private static String stack(int held, int nodes) {
        return held == 0 ? "" : "0" + "2".repeat(nodes - held) + "1".repeat(held - 1);
    }

    private static void goalOutOfRange() {
        Run x = run("goal: g not 0 to 3 answers BAD_ARG");
        for (int g : NOT_GOALS) {
            x.goal(g, BAD_ARG);
        }
        x.scrap(0);
        for (int g = 0; g < 4; g++) {
            x.goal(g, g + 1);
        }
        for (int g : NOT_GOALS) {
            x.goal(g, BAD_ARG);
        }
        x.scrap(4);
    }

    private static void goalOnAStackThatHoldsSix() {
        Run x = run("goal: the stack holds 6, FULL");
        for (int i = 1; i <= 6; i++) {
            x.goal(3, i);
        }
        for (int g = 0; g < 4; g++) {
            x.goal(g, FULL);
        }
        x.scrap(6);
        x.patterns("01010");
        x.goal(0, 6);
        x.goal(0, FULL);
        x.scrap(6);
        x.goal(0, 1);
    }

    private static void goalOnSevenOperatorsAndGoals() {
        for (int held = 1; held <= 6; held++) {
            for (int nodes = held; nodes <= 7; nodes++) {
                Run x = run("goal: the patterns have 7 operators and goals together, FULL");
                boolean full = held == 6 || nodes == 7;
                x.patterns(stack(held, nodes));
                x.goal(2, full ? FULL : held + 1);
                x.scrap(full ? held : held + 1);
                x.goal(2, 1);
            }
        }
        Run x = run("goal: the patterns have 7 operators and goals together, goals too, FULL");
        x.patterns("ab4cd5");
        x.goal(0, 3);
        x.goal(0, FULL);
        x.scrap(3);
        x.patterns("abcdab4");
        x.goal(0, FULL);
        x.scrap(5);
    }

    private static void goalOrder() {
        Run x = run("goal: BAD_ARG before FULL");
        x.patterns("abcdab");
        for (int g : NOT_GOALS) {
            x.goal(g, BAD_ARG);
        }
        x.goal(0, FULL);
        x.scrap(6);
        x.patterns("0222222");
        for (int g : NOT_GOALS) {
            x.goal(g, BAD_ARG);
        }
        x.goal(3, FULL);
        x.scrap(1);
    }

    private static void patternOutOfRange() {
        Run x = run("pattern: o not 0 to 5 answers BAD_ARG");
        for (int o : NOT_OPERATORS) {
            x.pattern(o, BAD_ARG);
        }
        x.scrap(0);
        x.pattern(0, 1);
        x.pattern(1, 2);
        for (int o : NOT_OPERATORS) {
            x.pattern(o, BAD_ARG);
        }
        x.pattern(2, 2);
        x.pattern(3, 2);
        x.pattern(4, 1);
        x.goal(0, 2);
        x.pattern(5, 1);
    }

    private static void patternTooFew() {
        Run x = run("pattern: TOO_FEW");
        for (int o = 2; o < 6; o++) {
            x.pattern(o, TOO_FEW);
        }
        x.goal(1, 1);
        x.pattern(4, TOO_FEW);
        x.pattern(5, TOO_FEW);
        x.pattern(2, 1);
        x.pattern(4, TOO_FEW);
        x.goal(1, 2);
        x.pattern(5, 1);
        x.pattern(5, TOO_FEW);
        x.scrap(1);
        x.pattern(3, TOO_FEW);
    }

    private static int pushed(int parts, int held, int nodes, int most, int mostNodes) {
        if (held < parts) {
            return TOO_FEW;
        }
        return held - parts + 1 > most || nodes == mostNodes ? FULL : held - parts + 1;
    }

    private static void patternMoreThanSix() {
        Run x = run("pattern: the stack would hold more than 6, FULL");
        x.patterns("abcda");
        x.pattern(0, 6);
        x.pattern(0, FULL);
        x.pattern(1, FULL);
        x.goal(0, FULL);
        x.pattern(3, 6);
        x.scrap(6);
        x.patterns("abcdab");
        x.pattern(1, FULL);
        x.pattern(5, 5);
        x.scrap(5);
        x.patterns("abcdab");
        x.pattern(0, FULL);
        x.pattern(2, 6);
        x.scrap(6);
    }

    private static void patternOnSevenOperatorsAndGoals() {
        for (int held = 1; held <= 6; held++) {
            for (int nodes = held; nodes <= 7; nodes++) {
                for (int o = 0; o < 6; o++) {
                    Run x = run("pattern: 7 operators and goals are on the stack already, FULL");
                    int due = pushed(PARTS[o], held, nodes, 6, 7);
                    x.patterns(stack(held, nodes));
                    x.pattern(o, due);
                    x.scrap(due > 0 ? due : held);
                    x.pattern(0, 1);
                }
            }
        }
        Run x = run("pattern: 7 operators and goals, some of them goals, FULL");
        x.patterns("ab4cd5");
        x.pattern(4, 1);
        x.pattern(2, FULL);
        x.scrap(1);
        x.patterns("abcdab4");
        for (int o = 0; o < 6; o++) {
            x.pattern(o, FULL);
        }
        x.scrap(5);
    }

    private static void patternOrder() {
        Run x = run("pattern: BAD_ARG before TOO_FEW before FULL");
        x.pattern(6, BAD_ARG);
        x.pattern(-1, BAD_ARG);
        x.patterns("0222222");
        for (int o : NOT_OPERATORS) {
            x.pattern(o, BAD_ARG);
        }
        x.pattern(4, TOO_FEW);
        x.pattern(5, TOO_FEW);
        x.pattern(0, FULL);
        x.pattern(3, FULL);
        x.scrap(1);
        x.patterns("abcdab");
        for (int o : NOT_OPERATORS) {
            x.pattern(o, BAD_ARG);
        }
        x.pattern(1, FULL);
        x.scrap(6);
    }

    private static void patternTakesTheTopAsItsLastPart() {
        Run x = run("pattern: the top is the last part");
        x.patterns("01");
        x.pattern(4, 1);
        x.rule(0, 1, 0);
        x.patterns("010");
        x.pattern(4, 2);
        x.pattern(5, 1);
        x.rule(1, 1, 1);
        x.trees("014");
        x.goals(1);
        x.fresh("104");
        x.goals(0);
        x.fresh("01045");
        x.goals(2);
        x.fresh("00145");
        x.goals(0);
        x.fresh("10405");
        x.goals(0);
    }

    // Promise 4.

    private static void ruleOutOfRange() {
        Run x = run("rule: g not 0 to 3 or cost not 0 to 9 answers BAD_ARG");
        x.pattern(0, 1);
        for (int g : NOT_GOALS) {
            x.rule(g, 0, BAD_ARG);
            x.rule(g, 9, BAD_ARG);
        }
        for (int cost : NOT_COSTS) {
            x.rule(0, cost, BAD_ARG);
            x.rule(3, cost, BAD_ARG);
            x.rule(4, cost, BAD_ARG);
        }
        x.unrule(NONE);
        x.rule(0, 0, 0);
        x.pattern(0, 1);
        x.rule(3, 9, 1);
        x.trees("0");
        x.cost(0, 0);
        x.cost(3, 9);
    }

    private static void ruleNeedsExactlyOne() {
        Run x = run("rule: the stack holds not exactly one, TOO_FEW");
        x.rule(0, 1, TOO_FEW);
        for (int held = 1; held <= 6; held++) {
            for (int nodes = held; nodes <= 7; nodes++) {
                x.patterns(stack(held, nodes));
                x.rule(0, 0, held == 1 ? x.rules : TOO_FEW);
                x.scrap(held == 1 ? 0 : held);
            }
        }
        x.unrule(6);
        x.rule(0, 1, TOO_FEW);
    }

    private static void ruleAtTenRules() {
        Run x = run("rule: 10 rules, FULL");
        for (int r = 0; r < 9; r++) {
            x.add(r % 4, "0", 9);
        }
        x.pattern(1, 1);
        x.rule(0, 1, 9);
        x.pattern(1, 1);
        x.rule(0, 0, FULL);
        x.rule(3, 9, FULL);
        x.trees("1");
        x.cost(0, 1);
        x.unrule(9);
        x.cost(0, NONE);
        x.rule(0, 2, 9);
        x.cost(0, 2);
        x.scrap(0);
    }

    private static void ruleOfAGoalForNothing() {
        for (int g = 0; g < 4; g++) {
            Run x = run("rule: its pattern is a goal and the cost is 0, BAD_ARG");
            x.goal(g, 1);
            for (int left = 0; left < 4; left++) {
                x.rule(left, 0, BAD_ARG);
            }
            x.unrule(NONE);
            x.rule(3 - g, 1, 0);
            x.patterns("abcd".charAt(g) + "2");
            x.rule(g, 0, 1);
            x.pattern(0, 1);
            x.rule(g, 0, 2);
            x.trees("02");
            x.cost(g, 0);
            x.cost(3 - g, 1);
        }
    }

    private static void ruleOrder() {
        Run x = run("rule: BAD_ARG, TOO_FEW, FULL, BAD_ARG in this order");
        x.rule(-1, 0, BAD_ARG);
        x.rule(0, 10, BAD_ARG);
        x.rule(0, 0, TOO_FEW);
        x.patterns("ab");
        x.rule(4, 1, BAD_ARG);
        x.rule(0, -1, BAD_ARG);
        x.rule(0, 0, TOO_FEW);
        x.scrap(2);
        for (int r = 0; r < 10; r++) {
            x.add(0, "0", 0);
        }
        x.rule(4, 0, BAD_ARG);
        x.rule(0, 10, BAD_ARG);
        x.rule(0, 0, TOO_FEW);
        x.rule(0, 1, TOO_FEW);
        x.patterns("ab");
        x.rule(MAX, 0, BAD_ARG);
        x.rule(0, MIN, BAD_ARG);
        x.rule(0, 0, TOO_FEW);
        x.scrap(2);
        x.goal(0, 1);
        x.rule(MIN, 0, BAD_ARG);
        x.rule(0, MAX, BAD_ARG);
        x.rule(0, 0, FULL);
        x.rule(0, 1, FULL);
        x.unrule(9);
        x.rule(0, 0, BAD_ARG);
        x.rule(0, 1, 9);
    }

    private static void ruleEmptiesTheStack() {
        Run x = run("rule: the stack is empty then");
        for (int r = 0; r < 10; r++) {
            x.patterns("aa4aa44");
            x.rule(0, 0, r);
            x.scrap(0);
            x.pattern(2, TOO_FEW);
        }
    }

    // Promises 5 and 6.

    private static void unruleNone() {
        Run x = run("unrule: NONE if there is none");
        x.unrule(NONE);
        x.unrule(NONE);
        x.patterns("0");
        x.unrule(NONE);
        x.rule(0, 1, 0);
        x.unrule(0);
        x.unrule(NONE);
        x.trees("0");
        x.noCover(0);
        x.add(1, "0", 1);
        x.cost(1, 1);
        x.noCover(0);
    }

    private static void unruleTakesTheLast() {
        Run x = run("unrule: takes the last rule away");
        for (int r = 0; r < 10; r++) {
            x.add(r % 4, "0", 9 - r);
        }
        x.patterns("aba");
        x.trees("000");
        int[][] costs = {{NONE, NONE, NONE, NONE}, {9, NONE, NONE, NONE}, {9, 8, NONE, NONE}, {9, 8, 7, NONE},
            {9, 8, 7, 6}, {5, 8, 7, 6}, {5, 4, 7, 6}, {5, 4, 3, 6}, {5, 4, 3, 2}, {1, 4, 3, 2}};
        for (int r = 9; r >= 0; r--) {
            x.unrule(r);
            for (int g = 0; g < 4; g++) {
                x.cost(g, costs[r][g]);
            }
        }
        x.unrule(NONE);
        x.scrap(3);
        x.fell(3);
    }

    private static void scrapEmptyAndFull() {
        Run x = run("scrap: empties the stack of patterns and answers how many were on it");
        x.scrap(0);
        x.add(0, "0", 1);
        x.trees("00");
        for (int held = 1; held <= 6; held++) {
            x.patterns(stack(held, held));
            x.scrap(held);
            x.scrap(0);
            x.patterns(stack(held, 7));
            x.scrap(held);
            x.scrap(0);
            x.pattern(2, TOO_FEW);
            x.rule(0, 1, TOO_FEW);
        }
        x.fell(2);
        x.unrule(0);
    }

    // Promises 7 to 9.

    private static void treeOutOfRange() {
        Run x = run("tree: o not 0 to 5 answers BAD_ARG");
        for (int o : NOT_OPERATORS) {
            x.tree(o, BAD_ARG);
        }
        x.fell(0);
        x.tree(0, 1);
        x.tree(1, 2);
        for (int o : NOT_OPERATORS) {
            x.tree(o, BAD_ARG);
        }
        x.tree(2, 2);
        x.tree(3, 2);
        x.tree(4, 1);
        x.tree(1, 2);
        x.tree(5, 1);
        x.size(7);
    }

    private static void treeTooFew() {
        Run x = run("tree: TOO_FEW");
        for (int o = 2; o < 6; o++) {
            x.tree(o, TOO_FEW);
        }
        x.tree(1, 1);
        x.tree(4, TOO_FEW);
        x.tree(5, TOO_FEW);
        x.tree(2, 1);
        x.tree(4, TOO_FEW);
        x.tree(1, 2);
        x.tree(5, 1);
        x.tree(5, TOO_FEW);
        x.size(4);
        x.fell(1);
        x.tree(3, TOO_FEW);
    }

    private static void treeMoreThanEight() {
        Run x = run("tree: the stack would hold more than 8, FULL");
        x.trees("0101010");
        x.tree(1, 8);
        x.tree(0, FULL);
        x.tree(1, FULL);
        x.tree(3, 8);
        x.tree(2, 8);
        x.tree(0, FULL);
        x.size(3);
        x.tree(5, 7);
        x.size(5);
        x.tree(0, 8);
        x.tree(0, FULL);
        x.fell(8);
        x.tree(0, 1);
    }

    private static void treeOn24Operators() {
        for (int held = 1; held <= 8; held++) {
            for (int nodes = held; nodes <= 24; nodes++) {
                for (int o = 0; o < 6; o++) {
                    Run x = run("tree: the trees have 24 operators together already, FULL");
                    int due = pushed(PARTS[o], held, nodes, 8, 24);
                    x.trees(stack(held, nodes));
                    x.tree(o, due);
                    x.fell(due > 0 ? due : held);
                    x.tree(0, 1);
                }
            }
        }
    }

    private static void treeOrder() {
        Run x = run("tree: BAD_ARG before TOO_FEW before FULL");
        x.tree(6, BAD_ARG);
        x.tree(-1, BAD_ARG);
        x.trees(ALL_24);
        for (int o : NOT_OPERATORS) {
            x.tree(o, BAD_ARG);
        }
        x.tree(4, TOO_FEW);
        x.tree(5, TOO_FEW);
        x.tree(0, FULL);
        x.tree(3, FULL);
        x.fell(1);
        x.trees("01010101");
        for (int o : NOT_OPERATORS) {
            x.tree(o, BAD_ARG);
        }
        x.tree(1, FULL);
        x.fell(8);
    }

    private static void treeTakesTheTopAsItsLastPart() {
        Run x = run("tree: the top is the last part");
        x.add(0, "014", 1);
        x.add(1, "01045", 1);
        x.trees("01");
        x.tree(4, 1);
        x.goals(1);
        x.fresh("10");
        x.tree(4, 1);
        x.goals(0);
        x.fresh("010");
        x.tree(4, 2);
        x.goals(0);
        x.tree(5, 1);
        x.goals(2);
        x.fresh("001");
        x.tree(4, 2);
        x.goals(1);
        x.tree(5, 1);
        x.goals(0);
    }

    private static void fellEmptyAndFull() {
        Run x = run("fell: empties the stack of trees and answers how many were on it");
        x.fell(0);
        x.add(0, "0", 1);
        x.patterns("ab");
        for (int held = 1; held <= 8; held++) {
            x.trees(stack(held, held));
            x.fell(held);
            x.fell(0);
            x.trees(stack(held, 24));
            x.fell(held);
            x.fell(0);
            x.size(0);
            x.goals(0);
            x.alike(false);
            x.tree(2, TOO_FEW);
        }
        x.scrap(2);
        x.unrule(0);
    }

    private static void sizeOfNoneAndOfTheLargest() {
        Run x = run("size: the operators of the top tree; 0 if there is none");
        x.size(0);
        x.trees("0");
        for (int n = 1; n < 24; n++) {
            x.size(n);
            x.tree(3, 1);
        }
        x.size(24);
        x.tree(3, FULL);
        x.size(24);
        x.fell(1);
        x.size(0);
        x.trees("000000004444444");
        x.size(15);
        x.trees("02222");
        x.size(5);
        x.trees("0");
        x.size(1);
        x.tree(5, 2);
        x.size(7);
        x.tree(5, 1);
        x.size(23);
        x.tree(0, 2);
        x.size(1);
        x.tree(4, FULL);
        x.size(1);
    }

    // Promises 10 and 11.

    private static void statesWithoutRules() {
        Run x = run("states: without rules all trees have the same state");
        x.states(1);
        for (int g = 0; g < 4; g++) {
            x.covering(g, 0);
        }
        x.add(0, "0", 0);
        x.states(2);
        x.covering(0, 1);
        x.unrule(0);
        x.states(1);
        x.covering(0, 0);
    }

    /** Leaf 0, chains of six operators above it from goal to goal, and all other trees. */
    private static void statesOneShortOfLarge() {
        Run x = run("states: 20 are counted, more than 20 are LARGE");
        x.add(0, "0", 0);
        x.add(1, "a222222", 0);
        x.states(8);
        x.add(2, "b222222", 0);
        x.states(14);
        x.add(3, "c22222", 0);
        x.states(19);
        x.unrule(3);
        x.add(3, "c222222", 0);
        x.states(20);
        for (int g = 0; g < 4; g++) {
            x.covering(g, 1);
        }
        x.add(0, "1", 0);
        x.states(LARGE);
        for (int g = 0; g < 4; g++) {
            x.covering(g, LARGE);
        }
        x.unrule(4);
        x.states(20);
        x.covering(0, 1);
        x.add(0, "d3", 0);
        x.states(LARGE);
        x.trees("0");
        x.cost(0, 0);
        x.unrule(4);
        x.covering(3, 1);
    }

    private static void statesWithoutEnd() {
        Run x = run("states: distances that grow without end are LARGE");
        x.add(0, "0", 0);
        x.add(1, "0", 0);
        x.add(0, "a2", 0);
        x.states(3);
        x.add(1, "b2", 1);
        x.states(LARGE);
        x.covering(0, LARGE);
        x.unrule(3);
        x.add(1, "b2", 0);
        x.states(3);
        x.covering(1, 2);
        Run y = run("states: distances that double without end are LARGE");
        y.add(0, "0", 0);
        y.add(1, "0", 9);
        y.add(0, "aa4", 0);
        y.add(1, "bb4", 9);
        y.states(LARGE);
        y.unrule(3);
        y.add(1, "ba4", 0);
        y.states(3);
    }

    private static void statesOfTreesThatNoStackHolds() {
        Run x = run("states: of all trees that there are, also those of over 24 operators");
        x.add(0, "0", 9);
        x.add(1, "aa4aa44", 9);
        x.states(4);
        x.add(2, "bb4bb44", 9);
        x.states(6);
        x.covering(0, 1);
        x.covering(1, 1);
        x.covering(2, 1);
        x.add(3, "cc4cc44", 9);
        x.states(8);
        x.covering(3, 1);
        x.add(0, "dd4dd44", 9);
        x.states(10);
        x.covering(0, 2);
    }

    private static void statesWhateverIsOnTheStacks() {
        Run x = run("states: of all trees that there are, not of those on the stack");
        x.add(0, "0", 1);
        x.add(1, "a2", 1);
        x.states(3);
        x.patterns("13");
        x.states(3);
        x.covering(1, 1);
        x.trees("0112");
        x.states(3);
        x.covering(1, 1);
        x.trees("4");
        x.states(3);
        x.fell(2);
        x.states(3);
        x.covering(0, 1);
        x.scrap(1);
        x.states(3);
    }

    /** Goal 1 falls behind goal 0 by 1 with each operator, until the rule from the one to the other stops it. */
    private static void statesByDistance() {
        for (int most = 1; most <= 9; most++) {
            Run x = run("states: by how much a least cost is above the least one");
            x.add(0, "0", 0);
            x.add(0, "a2", 0);
            x.add(1, "0", 0);
            x.add(1, "b2", 1);
            x.add(1, "a", most);
            x.states(most + 3);
            x.covering(0, most + 2);
            x.covering(1, most + 2);
            x.covering(2, 0);
        }
    }

    private static void coveringLargeAndOutOfRange() {
        Run x = run("covering: BAD_ARG if g is not 0 to 3, tested before LARGE");
        for (int g : NOT_GOALS) {
            x.covering(g, BAD_ARG);
        }
        x.add(0, "0", 0);
        x.add(1, "0", 0);
        x.add(0, "a2", 0);
        x.add(1, "b2", 1);
        for (int g : NOT_GOALS) {
            x.covering(g, BAD_ARG);
        }
        for (int g = 0; g < 4; g++) {
            x.covering(g, LARGE);
        }
        x.unrule(3);
        x.covering(0, 2);
        x.covering(1, 1);
        x.covering(2, 0);
        x.covering(3, 0);
        for (int g : NOT_GOALS) {
            x.covering(g, BAD_ARG);
        }
    }

    // Promises 12 to 14.

    private static void costNone() {
        Run x = run("cost: NONE if there is no cover, or no tree");
        x.cost(0, NONE);
        x.trees("0");
        x.cost(0, NONE);
        x.add(0, "0", 0);
        x.cost(0, 0);
        x.cost(1, NONE);
        x.fell(1);
        x.cost(0, NONE);
        x.trees("01");
        x.cost(0, NONE);
        x.tree(4, 1);
        x.cost(0, NONE);
        x.add(0, "aa4", 0);
        x.cost(0, NONE);
        x.add(0, "1", 0);
        x.cost(0, 0);
    }

    private static void costLeastAndGreatest() {
        Run x = run("cost: the least cost, 0 and the greatest that there is");
        x.add(0, "b", 9);
        x.add(1, "c", 9);
        x.add(2, "d", 9);
        x.add(3, "0", 9);
        x.add(3, "a2", 9);
        x.trees("0");
        for (int n = 1; n < 24; n++) {
            x.cost(0, 36 * n);
            x.cost(3, 36 * n - 27);
            x.tree(2, 1);
        }
        x.cost(0, 864);
        x.cost(1, 855);
        x.cost(2, 846);
        x.cost(3, 837);
        x.ways(0, 1);
        x.add(2, "0", 0);
        x.cost(0, 864 - 18);
        x.add(3, "d2", 0);
        x.cost(3, 9);
        x.add(0, "0", 0);
        x.add(0, "a2", 0);
        x.cost(0, 0);
        x.cost(3, 9);
    }

    private static void goalsEachSet() {
        for (int set = 0; set < 16; set++) {
            Run x = run("goals: the sum of 2 to the power g; 0 if there is no tree");
            for (int g = 0; g < 4; g++) {
                if ((set >> g) % 2 == 1) {
                    x.add(g, "0", 9);
                }
            }
            x.goals(0);
            x.trees("0");
            x.goals(set);
            x.trees("1");
            x.goals(0);
            x.fell(2);
            x.goals(0);
        }
    }

    private static void alikeFewerThanTwo() {
        Run x = run("alike: false if there are fewer than two trees");
        x.alike(false);
        x.trees("0");
        x.alike(false);
        x.trees("0");
        x.alike(true);
        x.tree(4, 1);
        x.alike(false);
        x.fell(1);
        x.alike(false);
        x.add(0, "0", 1);
        x.alike(false);
        x.trees("0");
        x.alike(false);
        x.trees("0");
        x.alike(true);
    }

    private static void alikeTheTwoTopTrees() {
        Run x = run("alike: the two top trees");
        x.add(0, "0", 1);
        x.add(0, "1", 1);
        x.trees("0011100");
        x.alike(true);
        x.trees("1");
        x.alike(false);
        x.tree(0, FULL);
        x.alike(false);
        x.fresh("01");
        x.alike(false);
        x.trees("1");
        x.alike(true);
        x.trees("2");
        x.alike(false);
        x.trees("02");
        x.alike(true);
    }

    // Promise 15.

    private static void waysNone() {
        Run x = run("ways: 0 if there is none; BAD_ARG if g is not 0 to 3");
        for (int g : NOT_GOALS) {
            x.ways(g, BAD_ARG);
        }
        x.ways(0, 0);
        x.trees("0");
        x.ways(0, 0);
        x.add(0, "0", 3);
        x.ways(0, 1);
        x.add(0, "0", 4);
        x.ways(0, 1);
        x.add(0, "0", 3);
        x.ways(0, 2);
        x.add(0, "0", 2);
        x.ways(0, 1);
        for (int g = 1; g < 4; g++) {
            x.ways(g, 0);
        }
        for (int g : NOT_GOALS) {
            x.ways(g, BAD_ARG);
        }
        x.trees("1");
        x.ways(0, 0);
        x.fell(2);
        x.ways(0, 0);
    }

    /** Each operator 2 makes 4 times as many covers and 3 more: 1, 7, 31 and so on, one less than a power of 2. */
    private static void waysAtTheEndOfInt() {
        Run x = run("ways: the greatest number that does not wrap, and beyond it");
        x.add(0, "0", 0);
        for (int i = 0; i < 4; i++) {
            x.add(0, "a2", 0);
        }
        for (int i = 0; i < 3; i++) {
            x.add(0, "b2", 0);
        }
        x.add(1, "0", 0);
        x.add(1, "b2", 0);
        x.trees("0");
        for (int n = 0; n < 23; n++) {
            x.ways(0, n < 16 ? (int) ((1L << 2 * n + 1) - 1) : -1);
            x.ways(1, 1);
            x.tree(2, 1);
        }
        x.fresh("0222222222222222");
        x.ways(0, MAX);
        x.tree(2, 1);
        x.ways(0, -1);
        x.cost(0, 0);
        x.uses(0, 17);
        x.used(0, 16, 0);
        x.goals(3);
    }

    private static void waysWrapToNothing() {
        Run x = run("ways: wraps to the least int and to 0, and there is a cover all the same");
        for (int i = 0; i < 4; i++) {
            x.add(0, "0", 0);
            x.add(0, "a2", 0);
        }
        x.add(0, "a3", 1);
        x.add(0, "a3", 1);
        x.trees("022222222222222");
        x.ways(0, 1 << 30);
        x.tree(3, 1);
        x.ways(0, MIN);
        x.tree(3, 1);
        x.ways(0, 0);
        x.cost(0, 2);
        x.goals(1);
        x.uses(0, 17);
        x.used(0, 0, 8);
        x.used(0, 1, 8);
        x.used(0, 2, 1);
        x.used(0, 16, 0);
        x.used(0, 17, NONE);
        x.tree(2, 1);
        x.ways(0, 0);
        x.uses(0, 18);
        x.fresh("022222222222222");
        x.ways(0, 1 << 30);
    }

    private static void waysWrapInProductsAndSums() {
        Run x = run("ways: wraps in products of two parts and in sums of rules");
        for (int i = 0; i < 4; i++) {
            x.add(0, "0", 0);
            x.add(0, "a2", 0);
        }
        x.add(0, "aa4", 0);
        x.trees("0222222202222222");
        x.tree(4, 1);
        x.ways(0, 0);
        x.fresh("022222220222222");
        x.tree(4, 1);
        x.ways(0, 1 << 30);
        x.add(0, "aa4", 0);
        x.ways(0, MIN);
        x.tree(2, 1);
        x.ways(0, 0);
        x.fresh("02222220222222");
        x.tree(4, 1);
        x.ways(0, 1 << 29);
        Run y = run("ways: wraps to an odd number");
        for (int i = 0; i < 3; i++) {
            y.add(0, "0", 1);
            y.add(0, "a2", 1);
        }
        y.trees("0");
        long all = 3;
        for (int n = 1; n < 24; n++) {
            y.ways(0, (int) all);
            y.tree(2, 1);
            all *= 3;
        }
        y.ways(0, (int) all);
        y.cost(0, 24);
    }

    // Promises 16 to 18.

    private static void usedOutOfTheCover() {
        Run x = run("used: rule i of the cover, 0 is the first; NONE if there is none");
        x.used(0, 0, NONE);
        x.add(0, "0", 1);
        x.used(0, 0, NONE);
        x.add(1, "a2", 1);
        x.add(2, "b", 1);
        x.trees("02");
        x.cover(1, "10");
        x.cover(2, "210");
        x.used(0, 0, NONE);
        x.used(3, 0, NONE);
        int[] not = {MIN, MIN + 1, MIN + 2, -65536, -256, -3, -2, -1, 3, 4, 23, 24, 25, 95, 96, 97, 256, 258, 65536,
            65538, MAX - 1, MAX};
        for (int i : not) {
            x.used(2, i, NONE);
            x.used(0, i, NONE);
        }
        x.used(2, 2, 0);
        x.fell(1);
        x.used(2, 2, NONE);
        x.used(2, 0, NONE);
        x.trees("0");
        x.used(0, 0, 0);
        x.used(0, 1, NONE);
    }

    private static void usedTheFirstAsInADictionary() {
        Run x = run("used: the first, as in a dictionary, of the covers with the least cost");
        x.add(0, "b", 1);
        x.add(1, "c", 1);
        x.add(0, "0", 3);
        x.add(1, "0", 2);
        x.add(2, "0", 1);
        x.trees("0");
        x.ways(0, 3);
        x.cover(0, "014");
        x.cover(1, "14");
        Run y = run("used: the lower rule at the first place, whatever comes then");
        y.add(3, "0", 0);
        y.add(0, "0", 1);
        y.add(1, "0", 1);
        y.add(2, "bd4", 1);
        y.add(2, "a04", 1);
        y.trees("004");
        y.ways(2, 2);
        y.cover(2, "320");
        y.unrule(4);
        y.unrule(3);
        y.add(2, "a04", 1);
        y.add(2, "bd4", 1);
        y.ways(2, 2);
        y.cover(2, "31");
        Run z = run("used: a place on the left goes before one on the right");
        z.add(0, "0", 2);
        z.add(1, "0", 1);
        z.add(0, "b", 1);
        z.add(3, "ba4", 2);
        z.add(3, "ab4", 2);
        z.trees("004");
        z.ways(3, 4);
        z.cover(3, "310");
        z.unrule(4);
        z.unrule(3);
        z.add(3, "ab4", 2);
        z.add(3, "ba4", 2);
        z.cover(3, "301");
        Run w = run("used: a lower rule that costs more is not in it");
        w.add(0, "0", 9);
        w.add(0, "b", 3);
        w.add(0, "b", 2);
        w.add(1, "0", 1);
        w.add(1, "0", 0);
        w.trees("0");
        w.ways(0, 1);
        w.cover(0, "24");
    }

    private static void usesNoneAndTheMost() {
        Run x = run("uses: the number of rules in that cover; NONE if there is none; BAD_ARG if g is not 0 to 3");
        for (int g : NOT_GOALS) {
            x.uses(g, BAD_ARG);
        }
        x.uses(0, NONE);
        x.trees("0");
        x.uses(0, NONE);
        x.add(0, "b", 1);
        x.add(1, "c", 1);
        x.add(2, "d", 1);
        x.add(3, "0", 0);
        x.add(3, "a2", 0);
        x.uses(3, 1);
        x.uses(0, 4);
        for (int n = 1; n < 24; n++) {
            x.uses(0, 4 * n);
            x.used(0, 4 * n - 1, 3);
            x.used(0, 4 * n, NONE);
            x.tree(2, 1);
        }
        x.uses(0, 96);
        x.uses(3, 93);
        x.used(0, 0, 0);
        x.used(0, 3, 4);
        x.used(0, 95, 3);
        x.used(0, 96, NONE);
        x.fresh("1");
        x.uses(0, NONE);
        for (int g : NOT_GOALS) {
            x.uses(g, BAD_ARG);
        }
        x.fell(1);
        x.uses(0, NONE);
    }

    private static void theGoalIsTestedFirst() {
        Run x = run("cost, ways, used and uses test g first, also when there is no tree");
        for (int part = 0; part < 3; part++) {
            for (int g : NOT_GOALS) {
                x.cost(g, BAD_ARG);
                x.ways(g, BAD_ARG);
                x.uses(g, BAD_ARG);
                x.used(g, 0, BAD_ARG);
                x.used(g, part == 0 ? -1 : part == 1 ? MIN : MAX, BAD_ARG);
            }
            for (int g = 0; g < 4; g += 3) {
                if (part < 2 || g == 3) {
                    x.noCover(g);
                }
            }
            if (part == 0) {
                x.trees("0");
            } else if (part == 1) {
                x.add(0, "0", 1);
            }
        }
        x.cost(0, 1);
        x.ways(0, 1);
        x.cover(0, "0");
    }

    // All limits at once.

    private static void everythingFull() {
        Run x = run("10 rules of 7 operators each, 7 operators and goals on 6 patterns, 24 operators on 8 trees");
        for (int r = 0; r < 10; r++) {
            x.add(r % 4, "0222222", 9 - r);
        }
        x.patterns("abcdab3");
        x.trees("022222222220101010222222");
        int[] costs = {1, 0, 3, 2};
        for (int round = 0; round < 2; round++) {
            x.goal(0, FULL);
            x.pattern(0, FULL);
            x.pattern(5, FULL);
            x.rule(0, 0, TOO_FEW);
            x.tree(0, FULL);
            x.tree(5, FULL);
            x.size(7);
            x.goals(15);
            x.alike(false);
            x.states(8);
            for (int g = 0; g < 4; g++) {
                x.covering(g, 1);
                x.cost(g, costs[g]);
                x.ways(g, 1);
                x.cover(g, "" + (9 - costs[g]));
            }
        }
        x.scrap(6);
        x.fresh(ALL_24);
        x.goals(0);
        x.alike(false);
        for (int g = 0; g < 4; g++) {
            x.noCover(g);
        }
        x.unrule(9);
        x.states(8);
        x.fresh("0222222");
        x.cost(1, 4);
    }

    private static void everythingFullAndLarge() {
        String[] words = {"0222222", "1222222", "0333333", "1333333", "0232323", "1232323", "0323232", "1323232",
            "0223322", "0332233"};
        Run x = run("10 rules of 7 operators each, with more than 20 states");
        for (int r = 0; r < 10; r++) {
            x.add(r % 4, words[r], 9 - r);
        }
        for (int r = 0; r < 10; r++) {
            x.fresh("01" + words[r]);
            x.goals(1 << r % 4);
            x.cost(r % 4, 9 - r);
            x.cover(r % 4, "" + r);
        }
        x.fresh("022222222222222220332233");
        x.goals(2);
        x.cost(1, 0);
        x.states(LARGE);
        for (int g = 0; g < 4; g++) {
            x.covering(g, LARGE);
        }
        x.cost(1, 0);
        x.alike(false);
        x.size(7);
    }
}
