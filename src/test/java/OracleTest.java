import java.math.BigInteger;
import java.util.ArrayList;
import java.util.HashMap;
import java.util.HashSet;
import java.util.IdentityHashMap;
import java.util.List;
import java.util.Map;
import java.util.Set;

/**
 * Runs of calls, made by a fixed sequence of numbers, against a plain model: it lists every cover of a tree that
 * no goal meets twice at one place, and finds costs, ways and first covers by looking through the list. Where the
 * covers are too many to list, it counts them as large numbers, and compares the first covers of the parts.
 */
public final class OracleTest {
    private static final int ABSENT = -1;
    private static final int UNKNOWN = -2;
    private static final int MANY = 20000;
    /** What an object answers after so many calls is free. */
    private static final int MOST_CALLS = 512;

    /** Each node is one of its own, so that what is known of it can be kept by the node. */
    private static final class Node {
        private final int symbol;
        private final List<Node> parts;
        private final int size;

        Node(int symbol, List<Node> parts) {
            this.symbol = symbol;
            this.parts = parts;
            int sum = 1;
            for (Node part : parts) {
                sum += part.size;
            }
            this.size = sum;
        }

        int symbol() {
            return symbol;
        }

        List<Node> parts() {
            return parts;
        }

        int size() {
            return size;
        }
    }

    private static final List<Node> GOALS = List.of(new Node(10, List.of()), new Node(11, List.of()),
        new Node(12, List.of()), new Node(13, List.of()));

    /** Least costs that were found before: for a tree, for a pattern, by the number of chain rules left. */
    private static final class Known {
        private final Map<Node, Map<Node, int[]>> costs = new IdentityHashMap<>();

        int[] of(Node pattern, Node tree) {
            return costs.computeIfAbsent(tree, t -> new IdentityHashMap<>())
                .computeIfAbsent(pattern, p -> new int[] {UNKNOWN, UNKNOWN, UNKNOWN, UNKNOWN});
        }
    }

    private record Rule(int left, Node pattern, int cost) {
    }

    private record Cover(int cost, List<Integer> rules) {
    }

    /** The covers with the least cost together: their number, and the first of them. */
    private record Best(int cost, BigInteger ways, List<Integer> first) {
        static final Best NOTHING = new Best(ABSENT, BigInteger.ZERO, List.of());

        Best or(Best other) {
            if (other.cost == ABSENT || cost != ABSENT && cost < other.cost) {
                return this;
            }
            if (cost == ABSENT || other.cost < cost) {
                return other;
            }
            return new Best(cost, ways.add(other.ways), Model.before(first, other.first) ? first : other.first);
        }

        Best then(Best other) {
            if (cost == ABSENT || other.cost == ABSENT) {
                return NOTHING;
            }
            List<Integer> list = new ArrayList<>(first);
            list.addAll(other.first);
            return new Best(cost + other.cost, ways.multiply(other.ways), list);
        }
    }

    private static final class TooMany extends RuntimeException {
        private static final long serialVersionUID = 1L;
    }

    /** The model of one object. Symbols 0 to 5 are operators, 10 to 13 the goals. */
    private static final class Model {
        final List<Node> patterns = new ArrayList<>();
        final List<Node> trees = new ArrayList<>();
        final List<Rule> rules = new ArrayList<>();

        static int arity(int o) {
            return new int[] {0, 0, 1, 1, 2, 2}[o];
        }

        static int total(List<Node> nodes) {
            int sum = 0;
            for (Node node : nodes) {
                sum += node.size();
            }
            return sum;
        }

        static int push(List<Node> stack, int o, int deepest, int largest) {
            if (o < 0 || o > 5) {
                return -1;
            }
            int arity = arity(o);
            if (stack.size() < arity) {
                return -3;
            }
            if (stack.size() - arity + 1 > deepest || total(stack) >= largest) {
                return -2;
            }
            List<Node> top = stack.subList(stack.size() - arity, stack.size());
            List<Node> parts = new ArrayList<>(top);
            top.clear();
            stack.add(new Node(o, parts));
            return stack.size();
        }

        int goal(int g) {
            if (g < 0 || g > 3) {
                return -1;
            }
            if (patterns.size() == 6 || total(patterns) == 7) {
                return -2;
            }
            patterns.add(GOALS.get(g));
            return patterns.size();
        }

        int rule(int g, int cost) {
            if (g < 0 || g > 3 || cost < 0 || cost > 9) {
                return -1;
            }
            if (patterns.size() != 1) {
                return -3;
            }
            if (rules.size() == 10) {
                return -2;
            }
            if (patterns.get(0).symbol() >= 10 && cost == 0) {
                return -1;
            }
            rules.add(new Rule(g, patterns.remove(0), cost));
            return rules.size() - 1;
        }

        int unrule() {
            if (rules.isEmpty()) {
                return -4;
            }
            rules.remove(rules.size() - 1);
            return rules.size();
        }

        static int clear(List<Node> stack) {
            int held = stack.size();
            stack.clear();
            return held;
        }

        Node top() {
            return trees.isEmpty() ? null : trees.get(trees.size() - 1);
        }

        /** Every cover by a goal, or a pattern, in which no goal of the set met is met again at this place. */
        List<Cover> covers(Node pattern, Node tree, Set<Integer> met) {
            List<Cover> found = new ArrayList<>();
            if (pattern.symbol() >= 10) {
                int g = pattern.symbol() - 10;
                if (met.contains(g)) {
                    return found;
                }
                Set<Integer> now = new HashSet<>(met);
                now.add(g);
                for (int r = 0; r < rules.size(); r++) {
                    Rule rule = rules.get(r);
                    if (rule.left() == g) {
                        for (Cover c : covers(rule.pattern(), tree, now)) {
                            List<Integer> list = new ArrayList<>();
                            list.add(r);
                            list.addAll(c.rules());
                            put(found, new Cover(rule.cost() + c.cost(), list));
                        }
                    }
                }
                return found;
            }
            if (pattern.symbol() != tree.symbol()) {
                return found;
            }
            found.add(new Cover(0, List.of()));
            for (int i = 0; i < pattern.parts().size(); i++) {
                List<Cover> longer = new ArrayList<>();
                List<Cover> ofPart = covers(pattern.parts().get(i), tree.parts().get(i), Set.of());
                for (Cover a : found) {
                    for (Cover b : ofPart) {
                        List<Integer> list = new ArrayList<>(a.rules());
                        list.addAll(b.rules());
                        put(longer, new Cover(a.cost() + b.cost(), list));
                    }
                }
                found = longer;
            }
            return found;
        }

        static void put(List<Cover> covers, Cover cover) {
            if (covers.size() >= MANY) {
                throw new TooMany();
            }
            covers.add(cover);
        }

        List<Cover> leastCovers(int g) {
            List<Cover> least = new ArrayList<>();
            if (top() == null) {
                return least;
            }
            for (Cover c : covers(GOALS.get(g), top(), Set.of())) {
                if (!least.isEmpty() && c.cost() < least.get(0).cost()) {
                    least.clear();
                }
                if (least.isEmpty() || c.cost() == least.get(0).cost()) {
                    least.add(c);
                }
            }
            return least;
        }

        static boolean before(List<Integer> a, List<Integer> b) {
            for (int i = 0; i < a.size() && i < b.size(); i++) {
                if (!a.get(i).equals(b.get(i))) {
                    return a.get(i) < b.get(i);
                }
            }
            return a.size() < b.size();
        }

        List<Integer> firstCover(int g) {
            List<Integer> first = List.of();
            for (Cover c : leastCovers(g)) {
                if (first.isEmpty() || before(c.rules(), first)) {
                    first = c.rules();
                }
            }
            return first;
        }

        /** The goals come first, in their order. */
        List<Node> entries() {
            List<Node> entries = new ArrayList<>(GOALS);
            for (Rule rule : rules) {
                addEntries(entries, rule.pattern());
            }
            return entries;
        }

        static void addEntries(List<Node> entries, Node pattern) {
            entries.add(pattern);
            for (Node part : pattern.parts()) {
                addEntries(entries, part);
            }
        }

        /** Least costs with a budget of chain rules: a goal may go on to another goal 3 times at most. */
        int least(Node pattern, Node tree, int chains, Known known) {
            int[] kept = known.of(pattern, tree);
            if (kept[chains] != UNKNOWN) {
                return kept[chains];
            }
            int best = ABSENT;
            if (pattern.symbol() < 10) {
                if (pattern.symbol() == tree.symbol()) {
                    best = 0;
                    for (int i = 0; i < pattern.parts().size() && best != ABSENT; i++) {
                        int part = least(pattern.parts().get(i), tree.parts().get(i), 3, known);
                        best = part == ABSENT ? ABSENT : best + part;
                    }
                }
            } else {
                for (Rule rule : rules) {
                    boolean chain = rule.pattern().symbol() >= 10;
                    if (rule.left() == pattern.symbol() - 10 && (!chain || chains > 0)) {
                        int rest = least(rule.pattern(), tree, chain ? chains - 1 : 3, known);
                        if (rest != ABSENT && (best == ABSENT || rest + rule.cost() < best)) {
                            best = rest + rule.cost();
                        }
                    }
                }
            }
            kept[chains] = best;
            return best;
        }

        /** The best covers, again with a budget of chain rules; found holds them by tree, pattern and budget. */
        Best best(Node pattern, Node tree, int chains, Map<Node, Map<Node, Best[]>> found) {
            Best[] kept = found.computeIfAbsent(tree, t -> new IdentityHashMap<>())
                .computeIfAbsent(pattern, p -> new Best[4]);
            if (kept[chains] == null) {
                kept[chains] = pattern.symbol() < 10 ? bestOfParts(pattern, tree, found)
                    : bestOfRules(pattern, tree, chains, found);
            }
            return kept[chains];
        }

        private Best bestOfParts(Node pattern, Node tree, Map<Node, Map<Node, Best[]>> found) {
            if (pattern.symbol() != tree.symbol()) {
                return Best.NOTHING;
            }
            Best best = new Best(0, BigInteger.ONE, List.of());
            for (int i = 0; i < pattern.parts().size(); i++) {
                best = best.then(best(pattern.parts().get(i), tree.parts().get(i), 3, found));
            }
            return best;
        }

        private Best bestOfRules(Node goal, Node tree, int chains, Map<Node, Map<Node, Best[]>> found) {
            Best best = Best.NOTHING;
            for (int r = 0; r < rules.size(); r++) {
                Rule rule = rules.get(r);
                boolean chain = rule.pattern().symbol() >= 10;
                if (rule.left() == goal.symbol() - 10 && (!chain || chains > 0)) {
                    Best start = new Best(rule.cost(), BigInteger.ONE, List.of(r));
                    best = best.or(start.then(best(rule.pattern(), tree, chain ? chains - 1 : 3, found)));
                }
            }
            return best;
        }

        /** For each entry how much it is above the least one, or ABSENT. */
        List<Integer> state(Node tree, List<Node> entries, Known known) {
            List<Integer> state = new ArrayList<>();
            int lowest = Integer.MAX_VALUE;
            for (Node entry : entries) {
                int cost = least(entry, tree, 3, known);
                state.add(cost);
                lowest = cost == ABSENT ? lowest : Math.min(lowest, cost);
            }
            final int floor = lowest;
            state.replaceAll(cost -> cost == ABSENT ? ABSENT : cost - floor);
            return state;
        }

        /** The states found by putting operators on trees, one tree kept for each state; null if over 20. */
        Set<List<Integer>> states() {
            List<Node> entries = entries();
            Known known = new Known();
            Map<List<Integer>, Node> found = new HashMap<>();
            boolean more = true;
            while (more) {
                more = false;
                List<Node> kept = new ArrayList<>(found.values());
                for (Node tree : above(kept, kept)) {
                    if (found.putIfAbsent(state(tree, entries, known), tree) == null) {
                        more = true;
                        if (found.size() > 20) {
                            return null;
                        }
                    }
                }
            }
            return found.keySet();
        }

        static List<Node> above(List<Node> one, List<Node> other) {
            List<Node> trees = new ArrayList<>();
            trees.add(new Node(0, List.of()));
            trees.add(new Node(1, List.of()));
            for (Node a : one) {
                trees.add(new Node(2, List.of(a)));
                trees.add(new Node(3, List.of(a)));
                for (Node b : other) {
                    trees.add(new Node(4, List.of(a, b)));
                    trees.add(new Node(5, List.of(a, b)));
                }
            }
            return trees;
        }
    }

    private static long seed = 20261115L;
    private static int wrong = 0;
    private static int notListed = 0;
    private static int wrapped = 0;
    private static int compared = 0;
    private static int large = 0;
    private static int severalWays = 0;
    private static int calls = 0;
    private static String run = "";

    private static int next(int bound) {
        seed = seed * 6364136223846793005L + 1442695040888963407L;
        return (int) ((seed >>> 33) % bound);
    }

    private static void due(String call, long got, long want) {
        compared++;
        calls++;
        if (got != want && wrong++ < 20) {
            System.out.println(run + ": " + call + " answered " + got + ", due is " + want);
        }
    }

    private static int goalOrNot() {
        return next(40) == 0 ? new int[] {-1, 4, 7, Integer.MIN_VALUE, Integer.MAX_VALUE}[next(5)] : next(4);
    }

    private static int operatorOrNot(int operators) {
        return next(40) == 0 ? new int[] {-1, 6, 9, Integer.MIN_VALUE, Integer.MAX_VALUE}[next(5)] : next(operators);
    }

    private static void change(TreeCover x, Model m, int dearest) {
        int kind = next(20);
        if (kind < 5) {
            int g = goalOrNot();
            due("goal(" + g + ")", x.goal(g), m.goal(g));
        } else if (kind < 10) {
            int o = operatorOrNot(6);
            due("pattern(" + o + ")", x.pattern(o), Model.push(m.patterns, o, 6, 7));
        } else if (kind < 14) {
            int g = goalOrNot();
            int c = next(40) == 0 ? 10 * next(2) - next(2) : next(dearest + 1);
            due("rule(" + g + ", " + c + ")", x.rule(g, c), m.rule(g, c));
        } else if (kind < 18) {
            int o = operatorOrNot(6);
            due("tree(" + o + ")", x.tree(o), Model.push(m.trees, o, 8, 24));
        } else if (kind == 18) {
            int rare = next(6);
            if (rare == 0) {
                due("unrule()", x.unrule(), m.unrule());
            } else if (rare < 4) {
                due("scrap()", x.scrap(), Model.clear(m.patterns));
            } else {
                due("fell()", x.fell(), Model.clear(m.trees));
            }
        } else {
            due("size()", x.size(), m.top() == null ? 0 : m.top().size());
        }
    }

    /** From the list of all covers, if it isn't too long. */
    private static Best bestOf(Model m, int g) {
        try {
            List<Cover> least = m.leastCovers(g);
            if (least.isEmpty()) {
                return Best.NOTHING;
            }
            return new Best(least.get(0).cost(), BigInteger.valueOf(least.size()), m.firstCover(g));
        } catch (TooMany e) {
            notListed++;
            return m.best(GOALS.get(g), m.top(), 3, new IdentityHashMap<>());
        }
    }

    private static void askCovers(TreeCover x, Model m, int g) {
        boolean bad = g < 0 || g > 3;
        compareCovers(x, g, bad ? Best.NOTHING : bestOf(m, g), bad);
    }

    private static void compareCovers(TreeCover x, int g, Best best, boolean bad) {
        List<Integer> first = best.first();
        if (calls + first.size() + 20 > MOST_CALLS) {
            return;
        }
        severalWays += best.ways().compareTo(BigInteger.ONE) > 0 ? 1 : 0;
        wrapped += best.ways().bitLength() > 31 ? 1 : 0;
        int none = bad ? -1 : -4;
        due("cost(" + g + ")", x.cost(g), best.cost() == ABSENT ? none : best.cost());
        due("ways(" + g + ")", x.ways(g), bad ? -1 : best.ways().intValue());
        due("uses(" + g + ")", x.uses(g), first.isEmpty() ? none : first.size());
        for (int i = -1; i <= first.size(); i++) {
            boolean there = i >= 0 && i < first.size();
            due("used(" + g + ", " + i + ")", x.used(g, i), there ? first.get(i) : none);
        }
    }

    private static void ask(TreeCover x, Model m) {
        askCovers(x, m, goalOrNot());
        for (int g = 0; g < 4; g++) {
            askCovers(x, m, g);
        }
        if (calls + 20 > MOST_CALLS) {
            return;
        }
        Known known = new Known();
        int set = 0;
        for (int h = 0; h < 4 && m.top() != null; h++) {
            int cost = m.least(GOALS.get(h), m.top(), 3, known);
            due("cost(" + h + ")", x.cost(h), cost == ABSENT ? -4 : cost);
            set += cost == ABSENT ? 0 : 1 << h;
        }
        due("goals()", x.goals(), set);
        boolean alike = false;
        if (m.trees.size() >= 2) {
            List<Node> entries = m.entries();
            Node below = m.trees.get(m.trees.size() - 2);
            alike = m.state(m.top(), entries, known).equals(m.state(below, entries, known));
        }
        due("alike()", x.alike() ? 1 : 0, alike ? 1 : 0);
    }

    private static void askStates(TreeCover x, Model m) {
        if (calls + 10 > MOST_CALLS) {
            return;
        }
        Set<List<Integer>> states = m.states();
        large += states == null ? 1 : 0;
        due("states()", x.states(), states == null ? -5 : states.size());
        for (int g = -1; g < 5; g++) {
            int covering = 0;
            if (states != null) {
                for (List<Integer> state : states) {
                    covering += g >= 0 && g < 4 && state.get(g) != ABSENT ? 1 : 0;
                }
            }
            due("covering(" + g + ")", x.covering(g), g < 0 || g > 3 ? -1 : states == null ? -5 : covering);
        }
    }

    /** All trees up to a size, each by itself, have just the states that are counted, or fewer. */
    private static void askSmallTrees(TreeCover x, Model m) {
        List<Node> entries = m.entries();
        Set<List<Integer>> counted = m.states();
        List<Node> small = Model.above(List.of(), List.of());
        small = Model.above(small, small);
        small = Model.above(small, small);
        Set<List<Integer>> seen = new HashSet<>();
        Known known = new Known();
        for (Node tree : small) {
            seen.add(m.state(tree, entries, known));
        }
        if (counted != null) {
            due("trees with a state that isn't counted", counted.containsAll(seen) ? 0 : 1, 0);
        } else if (calls < MOST_CALLS) {
            due("states()", x.states(), -5);
        }
    }

    /** Runs with free calls, in which rules are what they happen to become. */
    private static void freeRuns(int runs) {
        for (int i = 0; i < runs; i++) {
            run = "free run " + i;
            calls = 0;
            TreeCover x = new TreeCover();
            Model m = new Model();
            int dearest = 1 + next(9);
            for (int step = 0; step < 100; step++) {
                change(x, m, dearest);
                if (step % 20 == 19) {
                    ask(x, m);
                }
            }
            askStates(x, m);
        }
    }

    private static int leaves = 2;
    private static int unaries = 2;
    private static int binaries = 2;
    private static int goals = 4;

    private static int leaf() {
        return next(leaves);
    }

    private static int unary() {
        return 2 + next(unaries);
    }

    private static int binary() {
        return 4 + next(binaries);
    }

    private static void pushOperator(TreeCover x, Model m, int o) {
        due("pattern(" + o + ")", x.pattern(o), Model.push(m.patterns, o, 6, 7));
    }

    private static void pushGoal(TreeCover x, Model m, int g) {
        due("goal(" + g + ")", x.goal(g), m.goal(g));
    }

    private static void pushPattern(TreeCover x, Model m, int nodes) {
        for (int n = 0; n < nodes; n++) {
            int kind = next(10);
            if (m.patterns.size() == 0 || kind < 5) {
                if (next(4) == 0) {
                    pushOperator(x, m, leaf());
                } else {
                    pushGoal(x, m, next(goals));
                }
            } else {
                pushOperator(x, m, m.patterns.size() == 1 || kind < 7 ? unary() : binary());
            }
        }
        for (int n = 0; n < 6 && m.patterns.size() > 1; n++) {
            pushOperator(x, m, binary());
        }
    }

    private static void addRule(TreeCover x, Model m, int cost) {
        int g = next(goals);
        due("rule(" + g + ", " + cost + ")", x.rule(g, cost), m.rule(g, cost));
        due("scrap()", x.scrap(), Model.clear(m.patterns));
    }

    private static void addAnyRules(TreeCover x, Model m, int rules, int dearest) {
        for (int r = 0; r < rules; r++) {
            pushPattern(x, m, 1 + next(1 + next(5)));
            addRule(x, m, next(dearest + 1));
        }
    }

    /** A rule for an operator with goals as its parts. */
    private static void addPlainRule(TreeCover x, Model m, int o, int dearest) {
        for (int part = 0; part < Model.arity(o); part++) {
            pushGoal(x, m, next(goals));
        }
        pushOperator(x, m, o);
        addRule(x, m, next(dearest + 1));
    }

    private static void addPlainRules(TreeCover x, Model m, int dearest) {
        for (int o = 0; o < 6; o++) {
            if (o < leaves || o >= 2 && o < 2 + unaries || o >= 4 && o < 4 + binaries) {
                addPlainRule(x, m, o, dearest);
            }
        }
    }

    private static void growTrees(TreeCover x, Model m, int nodes) {
        for (int n = 0; n < nodes; n++) {
            int kind = next(10);
            int held = m.trees.size();
            int o = held == 0 || kind < 4 && held < 3 ? leaf() : held == 1 || kind < 6 ? unary() : binary();
            due("tree(" + o + ")", x.tree(o), Model.push(m.trees, o, 8, 24));
        }
    }

    /** Runs with few operators and low costs, so that many trees have covers, and several of the least cost. */
    private static void richRuns(int runs) {
        for (int i = 0; i < runs; i++) {
            run = "rich run " + i;
            calls = 0;
            TreeCover x = new TreeCover();
            Model m = new Model();
            leaves = 1 + next(3) / 2;
            unaries = 1 + next(3) / 2;
            binaries = 1 + next(3) / 2;
            goals = 1 + next(4);
            int dearest = 1 + next(next(3) == 0 ? 9 : 2);
            addAnyRules(x, m, next(4), dearest);
            addPlainRules(x, m, dearest);
            addAnyRules(x, m, next(6), dearest);
            askStates(x, m);
            for (int t = 0; t < 5 && calls + 20 < MOST_CALLS; t++) {
                growTrees(x, m, 1 + next(5));
                ask(x, m);
            }
            if (i % 10 == 0) {
                askSmallTrees(x, m);
            }
            if (calls < MOST_CALLS) {
                due("unrule()", x.unrule(), m.unrule());
            }
            ask(x, m);
            askStates(x, m);
        }
    }

    /** Runs with trees as large as they can be, and rules in which many covers have the least cost. */
    private static void deepRuns(int runs) {
        for (int i = 0; i < runs; i++) {
            run = "deep run " + i;
            calls = 0;
            TreeCover x = new TreeCover();
            Model m = new Model();
            leaves = 1;
            unaries = 1;
            binaries = 1;
            goals = 1 + next(3);
            int dearest = next(3);
            for (int r = 0; r < 9; r++) {
                addPlainRule(x, m, new int[] {0, 2, 4}[r % 3], dearest);
            }
            if (next(2) == 0) {
                addAnyRules(x, m, 1, 1);
            } else {
                addPlainRule(x, m, 2, 0);
            }
            growTrees(x, m, 22);
            for (int n = 0; n < 2 && m.trees.size() > 1; n++) {
                due("tree(4)", x.tree(4), Model.push(m.trees, 4, 8, 24));
            }
            Map<Node, Map<Node, Best[]>> found = new IdentityHashMap<>();
            for (int g = 0; g < 4; g++) {
                compareCovers(x, g, m.best(GOALS.get(g), m.top(), 3, found), false);
            }
        }
    }

    public static void main(String[] args) {
        freeRuns(1500);
        richRuns(3000);
        deepRuns(1500);
        System.out.println(compared + " answers compared, " + severalWays + " questions with several least covers, "
            + wrapped + " with so many that the number wraps, " + notListed + " with too many covers to list, "
            + large + " answers LARGE");
        System.out.println(wrong == 0 ? "all answers are as due" : wrong + " answers are not as due");
        if (wrong != 0) {
            System.exit(1);
        }
    }
}
