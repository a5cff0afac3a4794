import java.math.BigInteger;
import java.util.ArrayList;
import java.util.HashMap;
import java.util.LinkedHashSet;
import java.util.List;
import java.util.Map;
import java.util.Set;
import java.util.TreeMap;

/**
 * Runs of 512 calls on one object each, in which rules, patterns and trees come and go between the questions. They
 * are made by a fixed sequence of numbers, and every answer is compared with that of a model, written after the
 * document alone. Kinds of answers are counted in the second half of the runs, and each must have been due there.
 */
public final class LongRunTest {
    private static final int MOST_CALLS = 512;
    private static final int BAD_ARG = -1;
    private static final int FULL = -2;
    private static final int TOO_FEW = -3;
    private static final int NONE = -4;
    private static final int LARGE = -5;
    private static final int[] PARTS = {0, 0, 1, 1, 2, 2};
    private static final int[] OUT = {-1, -2, -5, 10, 11, 64, 256, 65536, Integer.MAX_VALUE, Integer.MIN_VALUE};

    private static long seed = 20261116L;
    private static int wrong = 0;
    private static final Map<String, Integer> KINDS = new TreeMap<>();

    private static int next(int bound) {
        seed = seed * 6364136223846793005L + 1442695040888963407L;
        return (int) ((seed >>> 33) % bound);
    }

    private static boolean once(int in) {
        return next(in) == 0;
    }

    /** Words for patterns and trees, wholes before parts: digits are operators, letters a to d the goals. */
    private static final class Words {
        static String goal(int g) {
            return "abcd".substring(g, g + 1);
        }

        static boolean isGoal(String word) {
            return word.charAt(0) >= 'a';
        }

        static int goalOf(String word) {
            return word.charAt(0) - 'a';
        }

        static int partsOf(char symbol) {
            return symbol >= 'a' ? 0 : PARTS[symbol - '0'];
        }

        static int endOfWord(String word, int from) {
            int open = 1;
            int at = from;
            while (open > 0) {
                open += partsOf(word.charAt(at)) - 1;
                at++;
            }
            return at;
        }

        static List<String> parts(String word) {
            List<String> parts = new ArrayList<>();
            int from = 1;
            while (from < word.length()) {
                int end = endOfWord(word, from);
                parts.add(word.substring(from, end));
                from = end;
            }
            return parts;
        }

        static int symbols(List<String> words) {
            return String.join("", words).length();
        }

        /** The order in which the calls push a word: parts before wholes. */
        static String partsFirst(String word) {
            StringBuilder order = new StringBuilder();
            for (String part : parts(word)) {
                order.append(partsFirst(part));
            }
            return order.append(word.charAt(0)).toString();
        }
    }

    private record Rule(int left, String pattern, int cost) {
    }

    /** The covers with the least cost: how many there are, and the first; a rule's number is one digit. */
    private record Covers(BigInteger number, String first) {
        static final Covers NOTHING = new Covers(BigInteger.ZERO, "");
    }

    /** What the document says of one object. A cost that there isn't is null. */
    private static final class Model {
        final List<String> patterns = new ArrayList<>();
        final List<String> trees = new ArrayList<>();
        final List<Rule> rules = new ArrayList<>();
        private final Map<String, Integer[]> costs = new HashMap<>();
        private final Map<String, Covers> covers = new HashMap<>();
        private Set<List<Integer>> states = null;

        private void rulesHaveChanged() {
            costs.clear();
            covers.clear();
            states = null;
        }

        int goal(int g) {
            if (g < 0 || g > 3) {
                return BAD_ARG;
            }
            if (patterns.size() == 6 || Words.symbols(patterns) == 7) {
                return FULL;
            }
            patterns.add(Words.goal(g));
            return patterns.size();
        }

        int push(List<String> stack, int o, int most, int mostSymbols) {
            if (o < 0 || o > 5) {
                return BAD_ARG;
            }
            int below = stack.size() - PARTS[o];
            if (below < 0) {
                return TOO_FEW;
            }
            if (below + 1 > most || Words.symbols(stack) == mostSymbols) {
                return FULL;
            }
            List<String> parts = stack.subList(below, stack.size());
            String word = o + String.join("", parts);
            parts.clear();
            stack.add(word);
            return stack.size();
        }

        int pattern(int o) {
            return push(patterns, o, 6, 7);
        }

        int tree(int o) {
            return push(trees, o, 8, 24);
        }

        int rule(int g, int cost) {
            if (g < 0 || g > 3 || cost < 0 || cost > 9) {
                return BAD_ARG;
            }
            if (patterns.size() != 1) {
                return TOO_FEW;
            }
            if (rules.size() == 10) {
                return FULL;
            }
            if (Words.isGoal(patterns.get(0)) && cost == 0) {
                return BAD_ARG;
            }
            rules.add(new Rule(g, patterns.remove(0), cost));
            rulesHaveChanged();
            return rules.size() - 1;
        }

        int unrule() {
            if (rules.isEmpty()) {
                return NONE;
            }
            rules.remove(rules.size() - 1);
            rulesHaveChanged();
            return rules.size();
        }

        static int empty(List<String> stack) {
            int held = stack.size();
            stack.clear();
            return held;
        }

        /** Null if there is none. */
        String top() {
            return trees.isEmpty() ? null : trees.get(trees.size() - 1);
        }

        Integer least(String pattern, String tree) {
            if (Words.isGoal(pattern)) {
                return goalCosts(tree)[Words.goalOf(pattern)];
            }
            if (pattern.charAt(0) != tree.charAt(0)) {
                return null;
            }
            List<String> ofPattern = Words.parts(pattern);
            List<String> ofTree = Words.parts(tree);
            int sum = 0;
            for (int i = 0; i < ofPattern.size(); i++) {
                Integer part = least(ofPattern.get(i), ofTree.get(i));
                if (part == null) {
                    return null;
                }
                sum += part;
            }
            return sum;
        }

        /** Lowered by the rules until none of them lowers a cost any more. */
        private Integer[] goalCosts(String tree) {
            Integer[] known = costs.get(tree);
            if (known != null) {
                return known;
            }
            Integer[] found = new Integer[4];
            costs.put(tree, found);
            boolean lowered = true;
            while (lowered) {
                lowered = false;
                for (Rule rule : rules) {
                    lowered |= lower(found, rule, least(rule.pattern(), tree));
                }
            }
            return found;
        }

        private static boolean lower(Integer[] costs, Rule rule, Integer rest) {
            if (rest == null || costs[rule.left()] != null && costs[rule.left()] <= rest + rule.cost()) {
                return false;
            }
            costs[rule.left()] = rest + rule.cost();
            return true;
        }

        /** Null if there is no tree, or no cover. */
        Integer leastOfTop(int g) {
            return top() == null ? null : goalCosts(top())[g];
        }

        Covers coversOfTop(int g) {
            return leastOfTop(g) == null ? Covers.NOTHING : covers(Words.goal(g), top());
        }

        private Covers covers(String pattern, String tree) {
            if (!Words.isGoal(pattern)) {
                return coversOfParts(pattern, tree);
            }
            String key = pattern + tree;
            Covers known = covers.get(key);
            if (known == null) {
                known = coversOfGoal(pattern, tree);
                covers.put(key, known);
            }
            return known;
        }

        private Covers coversOfParts(String pattern, String tree) {
            List<String> ofPattern = Words.parts(pattern);
            List<String> ofTree = Words.parts(tree);
            BigInteger number = BigInteger.ONE;
            String first = "";
            for (int i = 0; i < ofPattern.size(); i++) {
                Covers part = covers(ofPattern.get(i), ofTree.get(i));
                number = number.multiply(part.number());
                first += part.first();
            }
            return new Covers(number, first);
        }

        /** The whole lists are compared here, not rule by rule on the way. */
        private Covers coversOfGoal(String goal, String tree) {
            int least = least(goal, tree);
            BigInteger number = BigInteger.ZERO;
            String first = null;
            for (int r = 0; r < rules.size(); r++) {
                Rule rule = rules.get(r);
                Integer rest = least(rule.pattern(), tree);
                if (rule.left() == Words.goalOf(goal) && rest != null && rest + rule.cost() == least) {
                    Covers after = covers(rule.pattern(), tree);
                    String list = r + after.first();
                    number = number.add(after.number());
                    first = first == null || list.compareTo(first) < 0 ? list : first;
                }
            }
            return new Covers(number, first);
        }

        /** The goals first, then each pattern that is an operator and stands in a rule's pattern. */
        List<String> entries() {
            Set<String> entries = new LinkedHashSet<>(List.of("a", "b", "c", "d"));
            for (Rule rule : rules) {
                for (int from = 0; from < rule.pattern().length(); from++) {
                    entries.add(rule.pattern().substring(from, Words.endOfWord(rule.pattern(), from)));
                }
            }
            return new ArrayList<>(entries);
        }

        static List<Integer> aboveTheLeast(List<Integer> costs) {
            int least = Integer.MAX_VALUE;
            for (Integer cost : costs) {
                least = cost != null && cost < least ? cost : least;
            }
            List<Integer> above = new ArrayList<>();
            for (Integer cost : costs) {
                above.add(cost == null ? null : Integer.valueOf(cost - least));
            }
            return above;
        }

        List<Integer> stateOf(String tree) {
            List<Integer> costs = new ArrayList<>();
            for (String entry : entries()) {
                costs.add(least(entry, tree));
            }
            return aboveTheLeast(costs);
        }

        boolean alike() {
            int held = trees.size();
            return held >= 2 && stateOf(trees.get(held - 1)).equals(stateOf(trees.get(held - 2)));
        }

        /** All of them, or more than 20. */
        Set<List<Integer>> states() {
            if (states == null) {
                states = new Closure(this).states();
            }
            return states;
        }
    }

    /** Finds the states of all trees from states alone: what is above an operator follows from its parts' states. */
    private static final class Closure {
        private final Model model;
        private final List<String> entries;
        private final List<List<String>> parts = new ArrayList<>();
        private final Map<String, Integer> place = new HashMap<>();
        private final Set<List<Integer>> found = new LinkedHashSet<>();

        Closure(Model model) {
            this.model = model;
            this.entries = model.entries();
            for (String entry : entries) {
                place.put(entry, place.size());
                parts.add(Words.parts(entry));
            }
        }

        Set<List<Integer>> states() {
            int before = -1;
            while (before < found.size() && found.size() <= 20) {
                before = found.size();
                addAbove(new ArrayList<>(found));
            }
            return found;
        }

        private void addAbove(List<List<Integer>> known) {
            for (int o = 0; o < 2; o++) {
                found.add(above(o, List.of()));
            }
            for (List<Integer> one : known) {
                for (int o = 2; o < 4; o++) {
                    found.add(above(o, List.of(one)));
                }
                for (List<Integer> other : known) {
                    found.add(above(4, List.of(one, other)));
                    found.add(above(5, List.of(one, other)));
                }
                if (found.size() > 20) {
                    return;
                }
            }
        }

        private List<Integer> above(int o, List<List<Integer>> below) {
            Integer[] costs = new Integer[entries.size()];
            for (int e = 4; e < costs.length; e++) {
                if (entries.get(e).charAt(0) == '0' + o) {
                    costs[e] = sum(parts.get(e), below);
                }
            }
            boolean lowered = true;
            while (lowered) {
                lowered = false;
                for (Rule rule : model.rules) {
                    lowered |= Model.lower(costs, rule, costs[place.get(rule.pattern())]);
                }
            }
            List<Integer> list = new ArrayList<>();
            for (Integer cost : costs) {
                list.add(cost);
            }
            return Model.aboveTheLeast(list);
        }

        private Integer sum(List<String> words, List<List<Integer>> below) {
            int sum = 0;
            for (int i = 0; i < words.size(); i++) {
                Integer part = below.get(i).get(place.get(words.get(i)));
                if (part == null) {
                    return null;
                }
                sum += part;
            }
            return sum;
        }
    }

    /** One object and its model; a call beyond the last one that counts isn't made. */
    private static final class Run {
        private final int number;
        private final TreeCover x = new TreeCover();
        private final Model m = new Model();
        private final StringBuilder story = new StringBuilder();
        private int calls = 0;
        private boolean told = false;

        Run(int number) {
            this.number = number;
        }

        boolean over() {
            return calls == MOST_CALLS;
        }

        private void due(String call, int got, int due, String kind) {
            calls++;
            story.append(' ').append(call).append('=').append(due);
            if (calls > MOST_CALLS / 2) {
                KINDS.merge(call.substring(0, call.indexOf('(')) + ": " + kind, 1, Integer::sum);
            }
            if (got != due) {
                wrong++;
                tell(call + " answered " + got + ", due is " + due);
            }
        }

        /** The first fault of a run with all calls up to it, if there weren't many before. */
        private void tell(String fault) {
            if (!told && wrong < 20) {
                System.out.println("run " + number + ", call " + calls + ": " + fault + ", after" + story);
            }
            told = true;
        }

        private static String code(int answer) {
            return switch (answer) {
                case BAD_ARG -> "BAD_ARG";
                case FULL -> "FULL";
                case TOO_FEW -> "TOO_FEW";
                case NONE -> "NONE";
                case LARGE -> "LARGE";
                default -> "a number";
            };
        }

        private static String fullBy(List<String> stack, int mostSymbols) {
            return Words.symbols(stack) == mostSymbols ? ", all symbols" : ", the stack";
        }

        void goal(int g) {
            if (!over()) {
                int due = m.goal(g);
                String kind = due == FULL ? "FULL" + fullBy(m.patterns, 7) : code(due);
                due("goal(" + g + ")", x.goal(g), due, kind);
            }
        }

        void pattern(int o) {
            if (!over()) {
                int due = m.pattern(o);
                String kind = due == FULL ? "FULL" + fullBy(m.patterns, 7) : code(due);
                due("pattern(" + o + ")", x.pattern(o), due, kind);
            }
        }

        void rule(int g, int cost) {
            if (!over()) {
                int held = m.patterns.size();
                int due = m.rule(g, cost);
                String kind = code(due);
                if (due == TOO_FEW) {
                    kind += held == 0 ? ", none" : ", several";
                } else if (due == BAD_ARG) {
                    kind += g < 0 || g > 3 ? ", the goal" : cost == 0 ? ", a goal for 0" : ", the cost";
                }
                due("rule(" + g + ", " + cost + ")", x.rule(g, cost), due, kind);
            }
        }

        void unrule() {
            if (!over()) {
                int due = m.unrule();
                due("unrule()", x.unrule(), due, code(due));
            }
        }

        void scrap() {
            if (!over()) {
                int due = Model.empty(m.patterns);
                due("scrap()", x.scrap(), due, due == 0 ? "nothing" : "a number");
            }
        }

        void tree(int o) {
            if (!over()) {
                int due = m.tree(o);
                String kind = due == FULL ? "FULL" + fullBy(m.trees, 24) : code(due);
                due("tree(" + o + ")", x.tree(o), due, kind);
            }
        }

        void fell() {
            if (!over()) {
                int due = Model.empty(m.trees);
                due("fell()", x.fell(), due, due == 0 ? "nothing" : "a number");
            }
        }

        void size() {
            if (!over()) {
                int due = m.top() == null ? 0 : m.top().length();
                due("size()", x.size(), due, due == 0 ? "no tree" : due == 24 ? "the largest" : "a number");
            }
        }

        void states() {
            if (!over()) {
                int found = m.states().size();
                String kind = found > 20 ? "LARGE" : found > 12 ? "many" : found > 1 ? "several" : "one";
                due("states()", x.states(), found > 20 ? LARGE : found, kind);
            }
        }

        void covering(int g) {
            if (!over()) {
                int due = g < 0 || g > 3 ? BAD_ARG : m.states().size() > 20 ? LARGE : coveringIn(g);
                due("covering(" + g + ")", x.covering(g), due, due == 0 ? "no state" : code(due));
            }
        }

        private int coveringIn(int g) {
            int found = 0;
            for (List<Integer> state : m.states()) {
                found += state.get(g) == null ? 0 : 1;
            }
            return found;
        }

        private String treeOrNot() {
            return m.top() == null ? ", no tree" : ", a tree";
        }

        void cost(int g) {
            if (!over()) {
                boolean bad = g < 0 || g > 3;
                Integer least = bad ? null : m.leastOfTop(g);
                int due = bad ? BAD_ARG : least == null ? NONE : least;
                due("cost(" + g + ")", x.cost(g), due, code(due) + (least == null ? treeOrNot() : ""));
            }
        }

        void goals() {
            if (!over()) {
                int due = 0;
                for (int g = 0; g < 4; g++) {
                    due += m.leastOfTop(g) == null ? 0 : 1 << g;
                }
                due("goals()", x.goals(), due, due == 0 ? "0" + treeOrNot() : "the set " + due);
            }
        }

        void alike() {
            if (!over()) {
                boolean due = m.alike();
                String kind = m.trees.size() < 2 ? "false, fewer than two" : String.valueOf(due);
                if (due && m.rules.isEmpty()) {
                    kind += ", no rule";
                } else if (due) {
                    kind += sameCosts() ? ", the same costs" : ", other costs";
                }
                due("alike()", x.alike() ? 1 : 0, due ? 1 : 0, kind);
            }
        }

        private boolean sameCosts() {
            String below = m.trees.get(m.trees.size() - 2);
            for (String entry : m.entries()) {
                if (m.least(entry, below) != null && !m.least(entry, below).equals(m.least(entry, m.top()))) {
                    return false;
                }
            }
            return true;
        }

        void ways(int g) {
            if (!over()) {
                boolean bad = g < 0 || g > 3;
                BigInteger number = bad ? BigInteger.ZERO : m.coversOfTop(g).number();
                String kind = number.bitLength() > 31 ? "wrapped" : number.bitLength() > 1 ? "several" : "1";
                if (number.signum() == 0) {
                    kind = (bad ? "BAD_ARG" : "0") + treeOrNot();
                }
                due("ways(" + g + ")", x.ways(g), bad ? BAD_ARG : number.intValue(), kind);
            }
        }

        void used(int g, int i) {
            if (!over()) {
                boolean bad = g < 0 || g > 3;
                Covers covers = bad ? Covers.NOTHING : m.coversOfTop(g);
                boolean there = i >= 0 && i < covers.first().length();
                int due = bad ? BAD_ARG : there ? covers.first().charAt(i) - '0' : NONE;
                String kind = "one of several covers";
                if (!there) {
                    kind = code(due) + (covers.first().isEmpty() ? treeOrNot() : i < 0 ? ", below" : ", beyond");
                } else if (covers.number().equals(BigInteger.ONE)) {
                    kind = "the one cover";
                }
                due("used(" + g + ", " + i + ")", x.used(g, i), due, kind);
            }
        }

        void uses(int g) {
            if (!over()) {
                boolean bad = g < 0 || g > 3;
                int length = bad ? 0 : m.coversOfTop(g).first().length();
                int due = bad ? BAD_ARG : length == 0 ? NONE : length;
                due("uses(" + g + ")", x.uses(g), due, length == 0 ? code(due) + treeOrNot() : "a number");
            }
        }
    }

    /** How the rules and trees of a part of a run are made: of few symbols, so that many trees have covers. */
    private static final class Style {
        /** Rules that are there several times over, so that a tree has many least covers. */
        final boolean tied = once(4);
        final int goals = tied ? 1 : 1 + next(4);
        final int leaves = tied ? 1 : 1 + next(2);
        final int unaries = tied ? 1 : next(3);
        final int binaries = tied || unaries == 0 ? 1 : next(3);
        final int dearest = once(3) ? 9 : next(3);
        final int largestPattern = once(4) ? 7 : 2 + next(3);
        final int operators = leaves + unaries + binaries;
        final int fewestRules = tied ? 9 : once(6) ? next(3) : operators + next(10 - operators);

        /** The operator of the style with this number, with goals that rules have as its parts. */
        String plain(int number, List<Rule> rules) {
            int o = number;
            if (number >= leaves) {
                o = number < leaves + unaries ? 2 + number - leaves : 4 + number - leaves - unaries;
            }
            String word = String.valueOf(o);
            for (int part = 0; part < PARTS[o]; part++) {
                word += Words.goal(leftOf(rules));
            }
            return word;
        }

        String leaf() {
            return String.valueOf(next(leaves));
        }

        String goal() {
            return Words.goal(next(goals));
        }

        /** A word with so many symbols, or with fewer if the style has no operator with one part. */
        String word(int symbols, boolean withGoals) {
            if (symbols < 2) {
                return withGoals && !once(4) ? goal() : leaf();
            }
            if (symbols == 2 && unaries == 0) {
                return word(1, withGoals);
            }
            if (binaries == 0 || symbols == 2 || unaries > 0 && once(2)) {
                return (2 + next(unaries)) + word(symbols - 1, withGoals);
            }
            int ofFirst = 1 + next(symbols - 2);
            return (4 + next(binaries)) + word(ofFirst, withGoals) + word(symbols - 1 - ofFirst, withGoals);
        }
    }

    private static int goalOrNot() {
        return once(16) ? once(3) ? 4 : OUT[next(OUT.length)] : next(4);
    }

    private static int leftOf(List<Rule> rules) {
        return rules.isEmpty() ? next(4) : rules.get(next(rules.size())).left();
    }

    private static int operatorOrNot() {
        return once(16) ? once(3) ? 6 : OUT[next(OUT.length)] : next(6);
    }

    /** One question of any kind; the questions about covers are more frequent than the others. */
    private static void ask(Run run) {
        int g = once(3) ? goalOrNot() : leftOf(run.m.rules);
        switch (next(14)) {
            case 0 -> run.size();
            case 1 -> run.states();
            case 2 -> run.covering(g);
            case 3, 4 -> run.goals();
            case 5, 6 -> run.alike();
            case 7, 8 -> run.cost(g);
            case 9, 10 -> run.ways(g);
            case 11 -> run.uses(g);
            case 12 -> run.used(g, once(8) ? OUT[next(OUT.length)] : next(6));
            default -> askPlacesOfCover(run, leftOf(run.m.rules));
        }
    }

    private static void askPlacesOfCover(Run run, int g) {
        int length = run.m.coversOfTop(g).first().length();
        run.used(g, length - 1);
        run.used(g, once(6) ? -1 : length);
        run.used(g, next(1 + length));
    }

    private static void askSometimes(Run run) {
        if (once(3)) {
            ask(run);
        }
    }

    private static void pushPattern(Run run, String word) {
        for (char symbol : Words.partsFirst(word).toCharArray()) {
            if (symbol >= 'a') {
                run.goal(symbol - 'a');
            } else {
                run.pattern(symbol - '0');
            }
            if (once(8)) {
                ask(run);
            }
        }
    }

    /** Now and then with what was on the stack before, so that there is no room or more than one. */
    private static void addRule(Run run, Style style) {
        if (!run.m.patterns.isEmpty() && !once(8)) {
            run.scrap();
        }
        List<Rule> rules = run.m.rules;
        if (rules.size() < style.operators && !once(8)) {
            pushPattern(run, style.plain(rules.size(), rules));
            run.rule(next(style.goals), next(style.dearest + 1));
        } else if (style.tied && !rules.isEmpty()) {
            Rule twin = rules.get(next(rules.size()));
            pushPattern(run, twin.pattern());
            run.rule(twin.left(), twin.cost());
        } else if (once(3)) {
            pushPattern(run, style.goal());
            run.rule(next(style.goals), next(4));
        } else {
            pushPattern(run, style.word(1 + next(style.largestPattern), true));
            run.rule(once(16) ? goalOrNot() : next(style.goals), costOrNot(style));
        }
        askSometimes(run);
    }

    private static int costOrNot(Style style) {
        return once(16) ? OUT[next(OUT.length)] : next(style.dearest + 1);
    }

    private static void dropRules(Run run, int most) {
        int drops = 1 + next(most);
        for (int i = 0; i < drops; i++) {
            run.unrule();
            askSometimes(run);
        }
    }

    private static void pushTree(Run run, String word) {
        for (char symbol : Words.partsFirst(word).toCharArray()) {
            run.tree(symbol - '0');
            if (once(6)) {
                ask(run);
            }
        }
        askSometimes(run);
    }

    /** The top tree once more, with nothing or one operator above it, so that states are met again. */
    private static void pushTwin(Run run, Style style) {
        if (run.m.top() != null) {
            pushTree(run, run.m.top());
            if (once(2)) {
                run.tree(style.unaries > 0 ? 2 : next(style.leaves));
            }
            run.alike();
        }
    }

    private static void growTop(Run run, Style style) {
        int steps = 1 + next(6);
        for (int i = 0; i < steps; i++) {
            boolean two = style.binaries > 0 && run.m.trees.size() > 1 && once(2);
            run.tree(two ? 4 + next(style.binaries) : style.unaries > 0 ? 2 + next(style.unaries) : next(style.leaves));
            askSometimes(run);
        }
    }

    private static void fillPatterns(Run run) {
        for (int i = 0; i < 8; i++) {
            if (once(3)) {
                run.pattern(operatorOrNot());
            } else {
                run.goal(goalOrNot());
            }
            askSometimes(run);
        }
        run.rule(next(4), next(10));
    }

    /** One tree of all 24 operators, and all questions about it. */
    private static void fillTrees(Run run, Style style) {
        run.fell();
        pushTree(run, style.word(24, false));
        while (!run.over() && Words.symbols(run.m.trees) < 24) {
            run.tree(run.m.trees.size() > 1 ? 4 : style.unaries > 0 ? 2 : 0);
        }
        run.tree(next(6));
        for (int g = 0; g < 4; g++) {
            run.cost(g);
            run.ways(g);
            run.uses(g);
            askPlacesOfCover(run, g);
        }
        run.size();
    }

    private static void pushLeaves(Run run, Style style) {
        for (int i = 0; i < 9; i++) {
            run.tree(next(style.leaves));
            askSometimes(run);
        }
    }

    private static void anyChange(Run run) {
        switch (next(7)) {
            case 0 -> run.goal(goalOrNot());
            case 1 -> run.pattern(operatorOrNot());
            case 2 -> run.rule(goalOrNot(), next(10));
            case 3 -> run.scrap();
            case 4 -> run.tree(operatorOrNot());
            case 5 -> run.unrule();
            default -> run.fell();
        }
    }

    private static void step(Run run, Style style) {
        int kind = next(24);
        if (run.m.rules.size() < style.fewestRules || kind < 5) {
            addRule(run, style);
        } else if (kind < 8) {
            dropRules(run, once(9) ? 11 : 2);
        } else if (kind < 13) {
            pushTree(run, style.word(1 + next(9), false));
        } else if (kind < 15) {
            pushTwin(run, style);
        } else if (kind < 17) {
            growTop(run, style);
        } else if (kind < 18) {
            run.fell();
        } else if (kind < 19) {
            fillPatterns(run);
        } else if (kind < 20) {
            pushLeaves(run, style);
        } else if (kind < 21 && once(2)) {
            fillTrees(run, style);
        } else {
            anyChange(run);
        }
        if (run.m.trees.size() > 5 || Words.symbols(run.m.trees) > 21) {
            askSometimes(run);
            run.fell();
        }
        ask(run);
    }

    private static void askNewObject(Run run) {
        run.unrule();
        run.scrap();
        run.fell();
        run.size();
        run.states();
        run.goals();
        run.alike();
    }

    /** Two objects in turn, so that what is done to one and seen in the other is found as well. */
    private static void twoRuns(int number) {
        Run one = new Run(number);
        Run other = new Run(number + 1);
        Style style = new Style();
        askNewObject(other);
        while (!one.over() || !other.over()) {
            if (once(60)) {
                style = new Style();
            }
            step(one, style);
            step(other, style);
        }
    }

    private static final String[] DUE_KINDS = {
        "goal: BAD_ARG", "goal: FULL, all symbols", "goal: FULL, the stack", "goal: a number",
        "pattern: BAD_ARG", "pattern: TOO_FEW", "pattern: FULL, all symbols", "pattern: FULL, the stack",
        "pattern: a number",
        "rule: BAD_ARG, the goal", "rule: BAD_ARG, the cost", "rule: TOO_FEW, none", "rule: TOO_FEW, several",
        "rule: FULL", "rule: BAD_ARG, a goal for 0", "rule: a number",
        "unrule: NONE", "unrule: a number",
        "scrap: nothing", "scrap: a number",
        "tree: BAD_ARG", "tree: TOO_FEW", "tree: FULL, all symbols", "tree: FULL, the stack", "tree: a number",
        "fell: nothing", "fell: a number",
        "size: no tree", "size: the largest", "size: a number",
        "states: one", "states: several", "states: many", "states: LARGE",
        "covering: BAD_ARG", "covering: LARGE", "covering: no state", "covering: a number",
        "cost: BAD_ARG, no tree", "cost: BAD_ARG, a tree", "cost: NONE, no tree", "cost: NONE, a tree",
        "cost: a number",
        "goals: 0, no tree", "goals: 0, a tree", "goals: the set 1", "goals: the set 2", "goals: the set 3",
        "goals: the set 4", "goals: the set 5", "goals: the set 6", "goals: the set 7", "goals: the set 8",
        "goals: the set 9", "goals: the set 10", "goals: the set 11", "goals: the set 12", "goals: the set 13",
        "goals: the set 14", "goals: the set 15",
        "alike: false, fewer than two", "alike: false", "alike: true, no rule", "alike: true, the same costs",
        "alike: true, other costs",
        "ways: BAD_ARG, no tree", "ways: BAD_ARG, a tree", "ways: 0, no tree", "ways: 0, a tree", "ways: 1",
        "ways: several", "ways: wrapped",
        "used: BAD_ARG, no tree", "used: BAD_ARG, a tree", "used: NONE, no tree", "used: NONE, a tree",
        "used: NONE, below", "used: NONE, beyond", "used: the one cover", "used: one of several covers",
        "uses: BAD_ARG, no tree", "uses: BAD_ARG, a tree", "uses: NONE, no tree", "uses: NONE, a tree",
        "uses: a number"};

    /** A kind of answer that is hardly ever due in these runs would go untested in them. */
    private static void lookAtKinds() {
        for (String kind : DUE_KINDS) {
            int seen = KINDS.getOrDefault(kind, 0);
            if (seen < 10) {
                wrong++;
                System.out.println("only " + seen + " times in the second half of the runs: " + kind);
            }
        }
    }

    public static void main(String[] args) {
        int runs = 1200;
        for (int number = 0; number < runs; number += 2) {
            twoRuns(number);
        }
        lookAtKinds();
        System.out.println(runs + " runs of " + MOST_CALLS + " calls, " + DUE_KINDS.length + " kinds of answers");
        System.out.println(wrong == 0 ? "all answers are as due" : wrong + " answers are not as due");
        if (wrong != 0) {
            System.exit(1);
        }
    }
}
