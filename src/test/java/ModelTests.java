import java.util.ArrayList;
import java.util.List;

/**
 * Long runs of calls, compared answer by answer with a second program that
 * follows the document's words step by step: a tree of objects that is run
 * from the root downwards by recursion, with a journal of what was carried out.
 * Then every choice of outcomes in a small tree, compared in the same way.
 */
public final class ModelTests {
    private static final int OBJECTS = 4000;
    private static final int CALLS = 512;

    private static final class Node {
        final Node parent;
        final boolean test;
        final List<Node> children = new ArrayList<>();
        final int[] hooks = new int[4];
        int[] body = {1};
        int tags = 1;
        boolean disabled = false;
        int result = 0;
        int attempts = 0;

        Node(Node parent, boolean test) {
            this.parent = parent;
            this.test = test;
        }

        List<Node> aboveFromRoot() {
            List<Node> way = new ArrayList<>();
            for (Node at = parent; at != null; at = at.parent) {
                way.add(0, at);
            }
            return way;
        }

        boolean shut() {
            return disabled || parent != null && parent.shut();
        }

        boolean selected(int wanted) {
            return test && (tags & wanted) != 0 && !shut();
        }

        boolean inUse(int wanted) {
            return !test && !shut() && anySelectedBelow(wanted);
        }

        private boolean anySelectedBelow(int wanted) {
            for (Node child : children) {
                if (child.selected(wanted) || child.anySelectedBelow(wanted)) {
                    return true;
                }
            }
            return false;
        }
    }

    /** One thing that was carried out; which is 0 for a test's body. */
    private record Step(Node node, int which, int outcome) { }

    private static final class Model {
        final List<Node> nodes = new ArrayList<>();
        final List<Step> journal = new ArrayList<>();

        Model() {
            nodes.add(new Node(null, false));
        }

        private Node find(int number) {
            return number >= 0 && number < nodes.size() ? nodes.get(number) : null;
        }

        int add(int parent, boolean test) {
            Node above = find(parent);
            if (above == null || above.test) {
                return -1;
            }
            if (nodes.size() == 24) {
                return -2;
            }
            Node node = new Node(above, test);
            above.children.add(node);
            nodes.add(node);
            return nodes.size() - 1;
        }

        int hook(int number, int which, int outcome) {
            Node node = find(number);
            if (node == null || node.test) {
                return -1;
            }
            if (which < 0 || which > 3 || outcome < 0 || outcome > 3) {
                return -3;
            }
            int old = node.hooks[which];
            node.hooks[which] = outcome;
            return old;
        }

        int body(int number, int attempts, int outcomes) {
            Node node = find(number);
            if (node == null || !node.test) {
                return -1;
            }
            if (attempts < 1 || attempts > 4) {
                return -3;
            }
            node.body = new int[attempts];
            for (int i = 0; i < attempts; i++) {
                int outcome = (outcomes >> (2 * i)) & 3;
                node.body[i] = outcome == 0 ? 1 : outcome;
            }
            return 0;
        }

        int tags(int number, int tags) {
            Node node = find(number);
            if (node == null || !node.test) {
                return -1;
            }
            node.tags = tags;
            return 0;
        }

        int disable(int number, boolean on) {
            Node node = find(number);
            if (node == null) {
                return -1;
            }
            int old = node.disabled ? 1 : 0;
            node.disabled = on;
            return old;
        }

        int run(int tags) {
            journal.clear();
            for (Node node : nodes) {
                node.result = 0;
                node.attempts = 0;
            }
            if (nodes.get(0).inUse(tags)) {
                runContainer(nodes.get(0), tags);
            }
            return count(2);
        }

        private int carryOut(Node node, int which, int outcome) {
            journal.add(new Step(node, which, outcome));
            return outcome;
        }

        private int resultSince(int start, Node onlyOf) {
            int result = 1;
            for (Step step : journal.subList(start, journal.size())) {
                boolean ofNode = onlyOf == null || step.node == onlyOf && step.which < 2;
                if (ofNode && step.outcome == 2) {
                    return 2;
                }
                if (ofNode && step.outcome == 3) {
                    result = 3;
                }
            }
            return result;
        }

        private void runContainer(Node node, int tags) {
            int start = journal.size();
            boolean passed = node.hooks[0] == 0 || carryOut(node, 0, node.hooks[0]) == 1;
            if (passed) {
                for (Node child : node.children) {
                    if (child.inUse(tags)) {
                        runContainer(child, tags);
                    } else if (child.selected(tags)) {
                        runTest(child);
                    }
                }
            }
            if (node.hooks[1] != 0) {
                carryOut(node, 1, node.hooks[1]);
            }
            node.result = resultSince(start, node);
        }

        private void runTest(Node node) {
            do {
                int start = journal.size();
                makeAttempt(node, node.body[node.attempts]);
                node.attempts++;
                node.result = resultSince(start, null);
            } while (node.result == 2 && node.attempts < node.body.length);
        }

        private void makeAttempt(Node node, int outcome) {
            List<Node> cameTo = new ArrayList<>();
            boolean allPassed = true;
            for (Node above : node.aboveFromRoot()) {
                if (allPassed) {
                    cameTo.add(0, above);
                    allPassed = above.hooks[2] == 0 || carryOut(above, 2, above.hooks[2]) == 1;
                }
            }
            if (allPassed) {
                carryOut(node, 0, outcome);
            }
            for (Node above : cameTo) {
                if (above.hooks[3] != 0) {
                    carryOut(above, 3, above.hooks[3]);
                }
            }
        }

        int result(int number) {
            Node node = find(number);
            return node == null ? -1 : node.result;
        }

        int times(int number, int which) {
            Node node = find(number);
            if (node == null || which < 0 || which > 3) {
                return -1;
            }
            int found = 0;
            for (Step step : journal) {
                if (step.node == node && step.which == which) {
                    found++;
                }
            }
            return found;
        }

        int count(int result) {
            if (result != 1 && result != 2 && result != 3) {
                return 0;
            }
            int found = 0;
            for (Node node : nodes) {
                if (node.test && node.result == result) {
                    found++;
                }
            }
            return found;
        }

        int steps() {
            return journal.size();
        }

        int attempts(int number) {
            Node node = find(number);
            return node == null ? -1 : node.attempts;
        }
    }

    /** The same numbers on every machine and in every run. */
    private static final class Numbers {
        private long state;

        Numbers(long seed) {
            state = seed * 0x9E3779B97F4A7C15L + 1;
        }

        int any() {
            state = state * 6364136223846793005L + 1442695040888963407L;
            return (int) (state >>> 32);
        }

        int below(int bound) {
            return (int) ((any() & 0xFFFFFFFFL) % bound);
        }

        boolean oneIn(int bound) {
            return below(bound) == 0;
        }
    }

    private static long compared = 0;
    private static int wrong = 0;

    private final int object;
    private final Numbers numbers;
    private final TestTreeRunner runner = new TestTreeRunner();
    private final Model model = new Model();
    // How many calls have been made; an object is promised no more than CALLS.
    private int calls = 0;

    private ModelTests(int object) {
        this.object = object;
        this.numbers = new Numbers(object);
    }

    private void same(String call, int got, int want) {
        calls++;
        compared++;
        if (got != want) {
            wrong++;
            if (wrong <= 20) {
                System.out.println("object " + object + ", call " + calls + ": " + call
                        + " answered " + got + ", due is " + want);
            }
        }
    }

    private int anyNode() {
        if (numbers.oneIn(40)) {
            return numbers.any();
        }
        // A little outside on both sides, and often beyond the nodes there are.
        return numbers.oneIn(8) ? numbers.below(28) - 2 : numbers.below(model.nodes.size());
    }

    private int anySmall() {
        return numbers.oneIn(25) ? numbers.below(9) - 3 : numbers.below(4);
    }

    private int anyOutcome() {
        // Passing ones are the rule, or no run would come far down the tree.
        return numbers.oneIn(25) ? numbers.below(9) - 3 : numbers.oneIn(4) ? numbers.below(4) : numbers.below(2);
    }

    private int anyTags() {
        return numbers.oneIn(6) ? numbers.any() : numbers.oneIn(3) ? numbers.below(8) : -1;
    }

    private void change() {
        int node = anyNode();
        switch (numbers.below(9)) {
            case 0, 1 -> same("container(" + node + ")", runner.container(node), model.add(node, false));
            case 2, 3 -> same("test(" + node + ")", runner.test(node), model.add(node, true));
            case 4, 5 -> {
                int which = anySmall();
                int outcome = anyOutcome();
                same("hook(" + node + ", " + which + ", " + outcome + ")",
                        runner.hook(node, which, outcome), model.hook(node, which, outcome));
            }
            case 6 -> {
                int attempts = anySmall() + 1;
                int outcomes = numbers.oneIn(2) ? numbers.any() : 0xAAAAAAAA & numbers.any();
                same("body(" + node + ", " + attempts + ", " + outcomes + ")",
                        runner.body(node, attempts, outcomes), model.body(node, attempts, outcomes));
            }
            case 7 -> {
                int tags = anyTags();
                same("tags(" + node + ", " + tags + ")", runner.tags(node, tags), model.tags(node, tags));
            }
            default -> {
                boolean on = numbers.oneIn(4);
                same("disable(" + node + ", " + on + ")", runner.disable(node, on), model.disable(node, on));
            }
        }
    }

    private void ask() {
        int node = anyNode();
        switch (numbers.below(5)) {
            case 0 -> same("result(" + node + ")", runner.result(node), model.result(node));
            case 1 -> {
                int which = anySmall();
                same("times(" + node + ", " + which + ")", runner.times(node, which), model.times(node, which));
            }
            case 2 -> {
                int result = anySmall();
                same("count(" + result + ")", runner.count(result), model.count(result));
            }
            case 3 -> same("steps()", runner.steps(), model.steps());
            default -> same("attempts(" + node + ")", runner.attempts(node), model.attempts(node));
        }
    }

    private void run() {
        int tags = anyTags();
        same("run(" + tags + ")", runner.run(tags), model.run(tags));
    }

    private void askAll() {
        same("steps()", runner.steps(), model.steps());
        for (int result = 0; result < 5; result++) {
            same("count(" + result + ")", runner.count(result), model.count(result));
        }
        for (int node = 0; node < 25; node++) {
            same("result(" + node + ")", runner.result(node), model.result(node));
            same("attempts(" + node + ")", runner.attempts(node), model.attempts(node));
            for (int which = 0; which < 4; which++) {
                same("times(" + node + ", " + which + ")", runner.times(node, which), model.times(node, which));
            }
        }
    }

    private void compare() {
        int callsOfAskAll = 6 + 25 * 6;
        while (calls < CALLS - callsOfAskAll - 1) {
            int kind = numbers.below(10);
            if (kind == 0) {
                run();
            } else if (kind < 7) {
                change();
            } else {
                ask();
            }
        }
        run();
        askAll();
    }

    private void setHooks(int node, int outcomes) {
        for (int which = 0; which < 4; which++) {
            int outcome = (outcomes >> (2 * which)) & 3;
            same("hook(" + node + ", " + which + ", " + outcome + ")",
                    runner.hook(node, which, outcome), model.hook(node, which, outcome));
        }
    }

    /** All that is told of the nodes 0 to 2. */
    private void askSmall() {
        same("steps()", runner.steps(), model.steps());
        for (int node = 0; node < 3; node++) {
            same("result(" + node + ")", runner.result(node), model.result(node));
            same("attempts(" + node + ")", runner.attempts(node), model.attempts(node));
            for (int which = 0; which < 4; which++) {
                same("times(" + node + ", " + which + ")", runner.times(node, which), model.times(node, which));
            }
        }
    }

    /** A test below a container below the root, with two attempts of each pair of outcomes. */
    private void compareSmall(int rootHooks, int innerHooks) {
        same("container(0)", runner.container(0), model.add(0, false));
        same("test(1)", runner.test(1), model.add(1, true));
        setHooks(0, rootHooks);
        setHooks(1, innerHooks);
        for (int outcomes = 0; outcomes < 16; outcomes++) {
            same("body(2, 2, " + outcomes + ")", runner.body(2, 2, outcomes), model.body(2, 2, outcomes));
            same("run(1)", runner.run(1), model.run(1));
            askSmall();
        }
    }

    public static void main(String[] args) {
        for (int object = 0; object < OBJECTS; object++) {
            new ModelTests(object).compare();
        }
        for (int hooks = 0; hooks < 256 * 256; hooks++) {
            new ModelTests(OBJECTS + hooks).compareSmall(hooks & 255, hooks >> 8);
        }
        System.out.println(compared + " answers compared, " + wrong + " not as due");
        if (wrong != 0) {
            System.exit(1);
        }
    }
}
