import java.util.ArrayList;
import java.util.List;

/**
 * "No call ever throws. A refused call answers the code named and changes nothing." In situations of all kinds, every
 * call that the document refuses is made on one object and not on its twin; then both are looked through alike.
 * The same is done with the questions, which are never refused but change nothing either.
 */
public final class RefusalTest {
    private static final int BAD_ARG = -1;
    private static final int FULL = -2;
    private static final int TOO_FEW = -3;
    private static final int NONE = -4;
    private static final int LARGE = -5;
    /** No code: the call is not refused. */
    private static final int TAKEN = 0;

    private static final int MOST_CALLS = 512;
    private static final int[] ANY = {Integer.MIN_VALUE, -1, 0, 1, 2, 3, 4, 5, 6, 9, 10, Integer.MAX_VALUE};
    private static final int[] PARTS = {0, 0, 1, 1, 2, 2};
    private static final String MIXED_TREES = "00044304201";

    private static int wrong = 0;
    private static int refused = 0;
    private static int looks = 0;

    private record Call(String name, int a, int b) {
    }

    /** Words are written parts first: digits are operators, letters a to d the goals. */
    private record Rule(int left, String word, int cost) {
    }

    private record Situation(String patterns, List<Rule> rules, boolean large, String trees) {
    }

    /** An object with the number of calls made on it, so that none is judged beyond the last that counts. */
    private static final class Run {
        private final TreeCover x = new TreeCover();
        private int calls = 0;

        int call(String name) {
            return call(name, 0, 0);
        }

        int call(String name, int a) {
            return call(name, a, 0);
        }

        int call(String name, int a, int b) {
            calls++;
            if (calls > MOST_CALLS) {
                fault("the test makes too many calls on one object");
            }
            switch (name) {
                case "goal": return x.goal(a);
                case "pattern": return x.pattern(a);
                case "rule": return x.rule(a, b);
                case "unrule": return x.unrule();
                case "scrap": return x.scrap();
                case "tree": return x.tree(a);
                case "fell": return x.fell();
                case "size": return x.size();
                case "states": return x.states();
                case "covering": return x.covering(a);
                case "cost": return x.cost(a);
                case "goals": return x.goals();
                case "alike": return x.alike() ? 1 : 0;
                case "ways": return x.ways(a);
                case "used": return x.used(a, b);
                case "uses": return x.uses(a);
                default: throw new IllegalArgumentException(name);
            }
        }

        void take(String name, int a, int b) {
            int got = call(name, a, b);
            if (got < 0) {
                fault(name + "(" + a + ", " + b + ") answered " + got + ", but is not to be refused");
            }
        }

        void patterns(String word) {
            for (char c : word.toCharArray()) {
                take(c >= 'a' ? "goal" : "pattern", c >= 'a' ? c - 'a' : c - '0', 0);
            }
        }

        void trees(String word) {
            for (char c : word.toCharArray()) {
                take("tree", c - '0', 0);
            }
        }
    }

    private static void fault(String text) {
        wrong++;
        if (wrong <= 20) {
            System.out.println(text);
        }
    }

    private static int held(String word) {
        int held = 0;
        for (char c : word.toCharArray()) {
            held += c >= 'a' ? 1 : 1 - PARTS[c - '0'];
        }
        return held;
    }

    private static boolean isGoal(int g) {
        return g >= 0 && g <= 3;
    }

    private static int codeOfPush(int o, String word, int most, int mostNodes) {
        if (o < 0 || o > 5) {
            return BAD_ARG;
        }
        if (held(word) < PARTS[o]) {
            return TOO_FEW;
        }
        return held(word) - PARTS[o] + 1 > most || word.length() >= mostNodes ? FULL : TAKEN;
    }

    private static int codeOfRule(Situation s, int g, int cost) {
        if (!isGoal(g) || cost < 0 || cost > 9) {
            return BAD_ARG;
        }
        if (held(s.patterns()) != 1) {
            return TOO_FEW;
        }
        if (s.rules().size() == 10) {
            return FULL;
        }
        return s.patterns().charAt(s.patterns().length() - 1) >= 'a' && cost == 0 ? BAD_ARG : TAKEN;
    }

    /** The code that the document names for the call, or TAKEN. */
    private static int code(Situation s, Call c) {
        switch (c.name()) {
            case "goal":
                if (!isGoal(c.a())) {
                    return BAD_ARG;
                }
                return held(s.patterns()) == 6 || s.patterns().length() == 7 ? FULL : TAKEN;
            case "pattern": return codeOfPush(c.a(), s.patterns(), 6, 7);
            case "tree": return codeOfPush(c.a(), s.trees(), 8, 24);
            case "rule": return codeOfRule(s, c.a(), c.b());
            case "unrule": return s.rules().isEmpty() ? NONE : TAKEN;
            case "covering":
                if (!isGoal(c.a())) {
                    return BAD_ARG;
                }
                return s.large() ? LARGE : TAKEN;
            case "states": return s.large() ? LARGE : TAKEN;
            case "ways": return isGoal(c.a()) ? TAKEN : BAD_ARG;
            default:
                if (!isGoal(c.a())) {
                    return BAD_ARG;
                }
                return s.trees().isEmpty() || s.rules().isEmpty() ? NONE : TAKEN;
        }
    }

    private static List<Call> allCalls() {
        List<Call> calls = new ArrayList<>();
        for (String name : new String[] {"goal", "pattern", "tree", "covering", "cost", "ways", "uses"}) {
            for (int a : ANY) {
                calls.add(new Call(name, a, 0));
            }
        }
        for (int a : new int[] {Integer.MIN_VALUE, -1, 0, 3, 4, Integer.MAX_VALUE}) {
            for (int b : new int[] {Integer.MIN_VALUE, -1, 0, 9, 10, Integer.MAX_VALUE}) {
                calls.add(new Call("rule", a, b));
            }
            calls.add(new Call("used", a, 0));
        }
        calls.add(new Call("unrule", 0, 0));
        calls.add(new Call("states", 0, 0));
        return calls;
    }

    private static List<Call> refusedCalls(Situation s) {
        List<Call> calls = new ArrayList<>();
        for (Call c : allCalls()) {
            if (code(s, c) != TAKEN) {
                calls.add(c);
            }
        }
        return calls;
    }

    private static List<Call> questions() {
        List<Call> calls = new ArrayList<>();
        for (String name : new String[] {"size", "states", "goals", "alike"}) {
            calls.add(new Call(name, 0, 0));
        }
        for (int g = 0; g < 4; g++) {
            for (String name : new String[] {"covering", "cost", "ways", "uses"}) {
                calls.add(new Call(name, g, 0));
            }
            for (int i : new int[] {-1, 0, 1, 5, 95, 96}) {
                calls.add(new Call("used", g, i));
            }
        }
        return calls;
    }

    private static Run build(Situation s) {
        Run x = new Run();
        for (Rule r : s.rules()) {
            x.patterns(r.word());
            x.take("rule", r.left(), r.cost());
        }
        x.patterns(s.patterns());
        x.trees(s.trees());
        return x;
    }

    /** All that can be seen of an object: both stacks are joined and filled, and the rules taken away one by one. */
    private static List<Integer> lookThrough(Run x, Situation s) {
        looks++;
        List<Integer> seen = new ArrayList<>();
        for (Call c : questions()) {
            seen.add(x.call(c.name(), c.a(), c.b()));
        }
        lookAtTrees(x, seen);
        lookAtPatterns(x, s, seen);
        for (int r = 0; r < 11; r++) {
            seen.add(x.call("unrule"));
            seen.add(x.call("goals"));
            seen.add(x.call("states"));
            seen.add(x.call("cost", r % 4));
        }
        return seen;
    }

    private static void lookAtTrees(Run x, List<Integer> seen) {
        int joined = 1;
        for (int i = 0; i < 8 && joined > 0; i++) {
            joined = x.call("tree", 4 + i % 2);
            seen.add(joined);
            seen.add(x.call("size"));
            seen.add(x.call("goals"));
            seen.add(x.call("cost", 0));
        }
        int pushed = 1;
        for (int i = 0; i < 25 && pushed > 0; i++) {
            pushed = x.call("tree", 0);
            seen.add(pushed);
        }
        seen.add(x.call("fell"));
    }

    private static void lookAtPatterns(Run x, Situation s, List<Integer> seen) {
        StringBuilder tree = new StringBuilder(s.patterns().replaceAll("[a-d]", "0"));
        int joined = 1;
        for (int i = 0; i < 6 && joined > 0; i++) {
            joined = x.call("pattern", 5);
            seen.add(joined);
            tree.append(joined > 0 ? "5" : "");
        }
        int number = x.call("rule", 3, 1);
        seen.add(number);
        if (number == FULL) {
            seen.add(x.call("unrule"));
            seen.add(x.call("rule", 3, 1));
        }
        seen.add(x.call("scrap"));
        for (char c : tree.toString().toCharArray()) {
            seen.add(x.call("tree", c - '0'));
        }
        seen.add(x.call("size"));
        for (int g = 0; g < 4; g++) {
            seen.add(x.call("cost", g));
            seen.add(x.call("uses", g));
        }
    }

    private static void compare(Situation s, String what, List<Integer> got, List<Integer> due) {
        for (int i = 0; i < due.size() && i < got.size(); i++) {
            if (!due.get(i).equals(got.get(i))) {
                fault(s + " after " + what + ": look " + i + " showed " + got.get(i) + ", due is " + due.get(i));
                return;
            }
        }
        if (due.size() != got.size()) {
            fault(s + " after " + what + ": " + got.size() + " looks, due are " + due.size());
        }
    }

    private static void refuse(Run x, Situation s, Call c) {
        refused++;
        int got = x.call(c.name(), c.a(), c.b());
        if (got != code(s, c)) {
            fault(s + ": " + c + " answered " + got + ", due is " + code(s, c));
        }
    }

    private static void refuseTogether(Situation s) {
        Run x = build(s);
        for (Call c : refusedCalls(s)) {
            refuse(x, s, c);
        }
        compare(s, "all that is refused", lookThrough(x, s), lookThrough(build(s), s));
    }

    private static void refuseOneByOne(Situation s) {
        List<Integer> due = lookThrough(build(s), s);
        for (Call c : refusedCalls(s)) {
            Run x = build(s);
            refuse(x, s, c);
            compare(s, c.toString(), lookThrough(x, s), due);
        }
    }

    private static void ask(Situation s) {
        Run x = build(s);
        List<Integer> first = new ArrayList<>();
        List<Integer> again = new ArrayList<>();
        for (Call c : questions()) {
            first.add(x.call(c.name(), c.a(), c.b()));
        }
        for (Call c : questions()) {
            again.add(x.call(c.name(), c.a(), c.b()));
        }
        compare(s, "the same questions", again, first);
        compare(s, "questions", lookThrough(x, s), lookThrough(build(s), s));
    }

    private static String stack(int held, int nodes) {
        return held == 0 ? "" : "0" + "2".repeat(nodes - held) + "1".repeat(held - 1);
    }

    private static List<String> patternStacks() {
        List<String> stacks = new ArrayList<>();
        stacks.addAll(List.of("", "a", "d", "ab", "a2", "aa4aa44", "abcdab", "abcdab4", "ab3cd5"));
        for (int held = 1; held <= 6; held++) {
            for (int nodes = held; nodes <= 7; nodes++) {
                stacks.add(stack(held, nodes));
            }
        }
        return stacks;
    }

    private static List<String> treeStacks() {
        List<String> stacks = new ArrayList<>(List.of("", MIXED_TREES, "000000004444444222222222"));
        for (int held : new int[] {1, 2, 7, 8}) {
            for (int nodes : new int[] {held, 23, 24}) {
                stacks.add(stack(held, nodes));
            }
        }
        return stacks;
    }

    /** A number of rules that all cover leaf 0, so that there are two states. */
    private static List<Rule> equalRules(int count) {
        List<Rule> rules = new ArrayList<>();
        for (int r = 0; r < count; r++) {
            rules.add(new Rule(r % 4, "0", 9 - r));
        }
        return rules;
    }

    /** Each tree has a cover by each goal, and a state for the operator at its top. */
    private static List<Rule> rulesForAllTrees() {
        return List.of(new Rule(0, "0", 1), new Rule(0, "1", 1), new Rule(0, "a2", 1), new Rule(0, "a3", 1),
            new Rule(0, "aa4", 1), new Rule(0, "aa5", 2), new Rule(1, "a", 1), new Rule(2, "b", 1),
            new Rule(3, "c", 1), new Rule(3, "a", 3));
    }

    /** Goal 1 falls behind goal 0 more and more, in states without end. */
    private static List<Rule> rulesWithoutEnd() {
        return List.of(new Rule(0, "0", 0), new Rule(1, "0", 0), new Rule(0, "a2", 0), new Rule(1, "b2", 1));
    }

    private static List<Situation> situations(List<String> patternStacks, List<String> treeStacks) {
        List<Situation> situations = new ArrayList<>();
        for (String patterns : patternStacks) {
            for (String trees : treeStacks) {
                for (int count : new int[] {0, 1, 9, 10}) {
                    situations.add(new Situation(patterns, equalRules(count), false, trees));
                }
                situations.add(new Situation(patterns, rulesForAllTrees(), false, trees));
                situations.add(new Situation(patterns, rulesWithoutEnd(), true, trees));
            }
        }
        return situations;
    }

    public static void main(String[] args) {
        List<Situation> situations = situations(patternStacks(), List.of("", MIXED_TREES));
        situations.addAll(situations(List.of("", "0222222"), treeStacks()));
        for (Situation s : situations) {
            refuseTogether(s);
            ask(s);
        }
        for (Situation s : situations(patternStacks(), List.of(MIXED_TREES))) {
            refuseOneByOne(s);
        }
        for (Situation s : situations(List.of("a"), treeStacks())) {
            refuseOneByOne(s);
        }
        System.out.println(refused + " calls refused, " + looks + " objects looked through");
        System.out.println(wrong == 0 ? "all answers are as due" : wrong + " answers are not as due");
        if (wrong != 0) {
            System.exit(1);
        }
    }
}
