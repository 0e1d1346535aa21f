import java.util.ArrayList;
import java.util.List;
import java.util.function.Supplier;
import java.util.function.ToIntFunction;

/**
 * The boundary cases: one method for each sentence of the document that names
 * one, called from main beside that sentence.
 */
public final class BoundaryTests {
    private static final int BAD_NODE = -1;
    private static final int FULL = -2;
    private static final int BAD_OUTCOME = -3;
    private static final int ABSENT = 0;
    private static final int PASSES = 1;
    private static final int FAILS = 2;
    private static final int ABORTS = 3;
    private static final int NOT_RUN = 0;
    private static final int PASSED = 1;
    private static final int FAILED = 2;
    private static final int ABORTED = 3;

    private static final int BEFORE_ALL = 0;
    private static final int AFTER_ALL = 1;
    private static final int BEFORE_EACH = 2;
    private static final int AFTER_EACH = 3;

    private static final int NODES = 24;
    private static final int CALLS = 512;
    private static final int LEAST = Integer.MIN_VALUE;
    private static final int MOST = Integer.MAX_VALUE;

    // Among them numbers that four times themselves, or cut down to a few
    // bits, would be a good node.
    private static final int[] NEVER_NODES = {
        LEAST, LEAST + 1, -(1 << 30), -256, -25, -24, -23, -4, -3, -2, -1,
        24, 25, 31, 32, 33, 64, 96, 128, 256, 257, 1 << 16, 1 << 30, (1 << 30) + 1, MOST - 1, MOST};

    private static final int[] NOT_0_TO_3 = {
        LEAST, LEAST + 1, -256, -5, -4, -3, -2, -1, 4, 5, 6, 7, 8, 16, 256, 257, 1 << 16, 1 << 30, MOST - 1, MOST};

    private static final int[] NOT_1_TO_4 = {
        LEAST, LEAST + 1, -256, -4, -3, -2, -1, 0, 5, 6, 7, 8, 16, 257, 1 << 16, 1 << 30, MOST - 1, MOST};

    private static String sentence = "";
    private static int checks = 0;
    private static int wrong = 0;

    private static void sentence(String words, Runnable test) {
        sentence = words;
        int before = checks;
        test.run();
        if (checks == before) {
            wrong++;
            System.out.println(words + ": nothing was looked at");
        }
    }

    private static void due(String call, Object got, Object want) {
        checks++;
        if (!got.equals(want)) {
            wrong++;
            System.out.println(sentence + ": " + call + " answered " + got + ", due is " + want);
        }
    }

    // ---- Looking at an object as a whole

    /** All that can be asked of the last run, about every node there may be, each as "call = answer". */
    private static List<String> asked(TestTreeRunner x) {
        List<String> all = new ArrayList<>();
        all.add("steps() = " + x.steps());
        for (int result = 0; result < 4; result++) {
            all.add("count(" + result + ") = " + x.count(result));
        }
        for (int node = 0; node < NODES; node++) {
            all.add("result(" + node + ") = " + x.result(node));
            all.add("attempts(" + node + ") = " + x.attempts(node));
            for (int which = 0; which < 4 && x.result(node) != BAD_NODE; which++) {
                all.add("times(" + node + ", " + which + ") = " + x.times(node, which));
            }
        }
        return all;
    }

    /** What a run for all tags tells. */
    private static List<String> ranAndAsked(TestTreeRunner x) {
        List<String> all = new ArrayList<>();
        all.add("run(-1) = " + x.run(-1));
        all.addAll(asked(x));
        return all;
    }

    /** The settings that only a change brings to light; the object is of no use afterwards. */
    private static List<String> turnedOver(TestTreeRunner x) {
        List<String> all = new ArrayList<>();
        for (int node = 0; node < NODES; node++) {
            all.add("disable(" + node + ", false) = " + x.disable(node, false));
            for (int which = 0; which < 4; which++) {
                all.add("hook(" + node + ", " + which + ", ABSENT) = " + x.hook(node, which, ABSENT));
            }
        }
        all.addAll(ranAndAsked(x));
        all.add("test(0) = " + x.test(0));
        return all;
    }

    /**
     * One look at each of several objects made alike: an object is promised
     * 512 calls only, and looking at it takes some hundred.
     */
    private static List<List<String>> looks(Supplier<TestTreeRunner> made, ToIntFunction<TestTreeRunner> call) {
        List<List<String>> all = new ArrayList<>();
        for (int look = 0; look < 3; look++) {
            TestTreeRunner x = made.get();
            call.applyAsInt(x);
            all.add(look == 0 ? asked(x) : look == 1 ? ranAndAsked(x) : turnedOver(x));
        }
        return all;
    }

    private static void refused(String what, Supplier<TestTreeRunner> made, ToIntFunction<TestTreeRunner> call, int answer) {
        due(what, call.applyAsInt(made.get()), answer);
        due(what + ", all there is after it", looks(made, call), looks(made, x -> 0));
    }

    private static void nothingTold(String what, TestTreeRunner x, int nodes) {
        due(what + ": steps()", x.steps(), 0);
        for (int result = 0; result < 4; result++) {
            due(what + ": count(" + result + ")", x.count(result), 0);
        }
        for (int node = 0; node < nodes; node++) {
            nothingToldOf(what, x, node);
        }
    }

    private static void nothingToldOf(String what, TestTreeRunner x, int node) {
        due(what + ": result(" + node + ")", x.result(node), NOT_RUN);
        due(what + ": attempts(" + node + ")", x.attempts(node), 0);
        dueTimes(what, x, node, 0, 0, 0, 0);
    }

    private static void dueTimes(String what, TestTreeRunner x, int node, int... want) {
        for (int which = 0; which < 4; which++) {
            due(what + ": times(" + node + ", " + which + ")", x.times(node, which), want[which]);
        }
    }

    private static void dueCounts(String what, TestTreeRunner x, int passed, int failed, int aborted) {
        due(what + ": count(PASSED)", x.count(PASSED), passed);
        due(what + ": count(FAILED)", x.count(FAILED), failed);
        due(what + ": count(ABORTED)", x.count(ABORTED), aborted);
    }

    // ---- Trees

    private static void setHooks(TestTreeRunner x, int node, int beforeAll, int afterAll, int beforeEach, int afterEach) {
        x.hook(node, BEFORE_ALL, beforeAll);
        x.hook(node, AFTER_ALL, afterAll);
        x.hook(node, BEFORE_EACH, beforeEach);
        x.hook(node, AFTER_EACH, afterEach);
    }

    private static final int SMALL_NODES = 8;
    private static final int[] SMALL_CONTAINERS = {0, 1, 3, 6};
    private static final int[] SMALL_TESTS = {2, 4, 5, 7};

    /** Eight nodes with something set at each, so that a change of any shows. */
    private static TestTreeRunner smallTree() {
        TestTreeRunner x = new TestTreeRunner();
        x.container(0);
        x.test(1);
        x.container(1);
        x.test(3);
        x.test(0);
        x.container(0);
        x.test(6);
        setHooks(x, 0, PASSES, ABSENT, PASSES, PASSES);
        setHooks(x, 1, PASSES, ABORTS, ABSENT, PASSES);
        setHooks(x, 3, ABSENT, FAILS, ABORTS, PASSES);
        setHooks(x, 6, FAILS, PASSES, PASSES, ABSENT);
        x.body(2, 3, FAILS | FAILS << 2 | PASSES << 4);
        x.body(5, 4, FAILS | ABORTS << 2);
        x.tags(4, 6);
        x.tags(5, LEAST | 1);
        return x;
    }

    private static TestTreeRunner smallTreeRun() {
        TestTreeRunner x = smallTree();
        x.run(3);
        return x;
    }

    /** All 24 nodes: a chain of containers 0 to containers - 1, and tests below the last of them. */
    private static TestTreeRunner chain(int containers) {
        TestTreeRunner x = new TestTreeRunner();
        for (int node = 1; node < NODES; node++) {
            if (node < containers) {
                x.container(node - 1);
            } else {
                x.test(containers - 1);
            }
        }
        return x;
    }

    private static TestTreeRunner fullTree() {
        TestTreeRunner x = chain(12);
        setHooks(x, 0, PASSES, ABORTS, PASSES, PASSES);
        setHooks(x, 11, ABSENT, PASSES, ABSENT, ABORTS);
        x.body(12, 2, FAILS | PASSES << 2);
        x.body(23, 4, FAILS | FAILS << 2 | FAILS << 4 | FAILS << 6);
        x.tags(22, 4);
        x.disable(21, true);
        return x;
    }

    private static TestTreeRunner fullTreeRun() {
        TestTreeRunner x = fullTree();
        x.run(1);
        return x;
    }

    // ---- What it is

    private static void fiveHundredAndTwelveRuns() {
        TestTreeRunner x = new TestTreeRunner();
        x.test(0);
        x.body(1, 4, FAILS | FAILS << 2 | FAILS << 4 | FAILS << 6);
        for (int call = 3; call <= CALLS - 5; call++) {
            due("call " + call + ", run(1)", x.run(1), 1);
        }
        due("call 508, steps()", x.steps(), 4);
        due("call 509, times(1, 0)", x.times(1, 0), 4);
        due("call 510, count(FAILED)", x.count(FAILED), 1);
        due("call 511, attempts(1)", x.attempts(1), 4);
        due("call 512, run(1)", x.run(1), 1);
    }

    private static void fiveHundredAndTwelveAsks() {
        TestTreeRunner x = new TestTreeRunner();
        x.test(0);
        x.body(1, 2, FAILS | ABORTS << 2);
        x.run(1);
        for (int call = 4; call <= CALLS; call++) {
            switch (call % 5) {
                case 0 -> due("call " + call + ", result(1)", x.result(1), ABORTED);
                case 1 -> due("call " + call + ", times(1, 0)", x.times(1, 0), 2);
                case 2 -> due("call " + call + ", count(ABORTED)", x.count(ABORTED), 1);
                case 3 -> due("call " + call + ", steps()", x.steps(), 2);
                default -> due("call " + call + ", attempts(1)", x.attempts(1), 2);
            }
        }
    }

    private static void fiveHundredAndTwelveOfOneKind() {
        List<ToIntFunction<TestTreeRunner>> asks = List.of(
                x -> x.result(0), x -> x.times(0, 3), x -> x.count(PASSED), x -> x.steps(), x -> x.attempts(0));
        for (ToIntFunction<TestTreeRunner> ask : asks) {
            TestTreeRunner x = new TestTreeRunner();
            for (int call = 1; call <= CALLS; call++) {
                due("call " + call + " of the same ask", ask.applyAsInt(x), 0);
            }
        }
        TestTreeRunner late = new TestTreeRunner();
        for (int call = 1; call < CALLS; call++) {
            due("call " + call + ", test(1)", late.test(1), BAD_NODE);
        }
        due("call 512, test(0)", late.test(0), 1);
    }

    private static void fiveHundredAndTwelveAdded() {
        TestTreeRunner x = new TestTreeRunner();
        for (int node = 1; node < NODES; node++) {
            x.container(0);
        }
        for (int call = NODES; call < CALLS; call++) {
            due("call " + call, call % 2 == 0 ? x.test(0) : x.container(23), FULL);
        }
        due("call 512, result(24)", x.result(24), BAD_NODE);
    }

    private static void fiveHundredAndTwelveSet() {
        TestTreeRunner x = new TestTreeRunner();
        int t = x.test(0);
        for (int call = 2; call < CALLS - 2; call++) {
            switch (call % 4) {
                case 0 -> due("hook", x.hook(0, AFTER_ALL, call / 4 % 4), call == 4 ? 0 : (call / 4 - 1) % 4);
                case 1 -> due("body", x.body(t, 1, FAILS), 0);
                case 2 -> due("tags", x.tags(t, call), 0);
                default -> due("disable", x.disable(t, call / 4 % 2 == 0), call == 3 ? 0 : call / 4 % 2);
            }
        }
        due("call 510, disable", x.disable(t, false), 1);
        due("call 511, run(2)", x.run(2), 1);
        due("call 512, result", x.result(0), ABORTED);
    }

    private static void fiveHundredAndTwelveCalls() {
        fiveHundredAndTwelveRuns();
        fiveHundredAndTwelveAsks();
        fiveHundredAndTwelveOfOneKind();
        fiveHundredAndTwelveAdded();
        fiveHundredAndTwelveSet();
    }

    // ---- Terms

    private static void nodes0To23() {
        TestTreeRunner x = new TestTreeRunner();
        for (int node = 1; node < NODES; node++) {
            due("result(" + node + ") ahead of it", x.result(node), BAD_NODE);
            due("test(0)", x.test(0), node);
            due("result(" + node + ")", x.result(node), NOT_RUN);
        }
        x.body(23, 1, ABORTS);
        due("run(1)", x.run(1), 0);
        dueCounts("23 tests", x, 22, 0, 1);
        due("result(1)", x.result(1), PASSED);
        due("result(23)", x.result(23), ABORTED);
        due("steps()", x.steps(), 23);
        due("result(24)", x.result(24), BAD_NODE);
    }

    private static void rootIsAlwaysThere() {
        TestTreeRunner x = new TestTreeRunner();
        due("result(0)", x.result(0), NOT_RUN);
        due("body(0, 1, 1)", x.body(0, 1, 1), BAD_NODE);
        due("tags(0, 1)", x.tags(0, 1), BAD_NODE);
        due("hook(0, 0, 1)", x.hook(0, 0, 1), ABSENT);
        due("disable(0, true)", x.disable(0, true), 0);
        due("test(0) when disabled", x.test(0), 1);
        due("container(0) when disabled", x.container(0), 2);
        due("result(0) when disabled", x.result(0), NOT_RUN);
    }

    private static void belowAnOlderContainer() {
        TestTreeRunner x = new TestTreeRunner();
        for (int node = 1; node < NODES; node++) {
            due("container(" + node + "), which it would be itself", x.container(node), BAD_NODE);
            due("test(" + node + "), which it would be itself", x.test(node), BAD_NODE);
            due("container(" + (node - 1) + ")", x.container(node - 1), node);
        }
    }

    /** The deepest way there is: 23 containers, and the test. */
    private static void upToTheRoot() {
        for (int stop = 0; stop < 23; stop++) {
            TestTreeRunner x = chain(23);
            for (int node = 0; node < 23; node++) {
                x.hook(node, BEFORE_EACH, node == stop ? FAILS : PASSES);
                x.hook(node, AFTER_EACH, PASSES);
            }
            String what = "BEFORE_EACH of " + stop + " fails";
            due(what + ": run(1)", x.run(1), 1);
            due(what + ": steps()", x.steps(), 2 * (stop + 1));
            for (int node = 0; node < 23; node++) {
                int done = node <= stop ? 1 : 0;
                dueTimes(what, x, node, 0, 0, done, done);
                due(what + ": result(" + node + ")", x.result(node), PASSED);
            }
            due(what + ": times(23, 0)", x.times(23, 0), 0);
        }
    }

    private static void theMostSteps() {
        TestTreeRunner x = chain(12);
        for (int node = 0; node < 12; node++) {
            setHooks(x, node, PASSES, PASSES, PASSES, PASSES);
        }
        for (int node = 12; node < NODES; node++) {
            x.body(node, 4, FAILS | FAILS << 2 | FAILS << 4 | FAILS << 6);
        }
        due("run(1)", x.run(1), 12);
        due("steps()", x.steps(), 12 * 2 + 12 * 4 * (12 * 2 + 1));
        dueTimes("root", x, 0, 1, 1, 48, 48);
        dueTimes("innermost", x, 11, 1, 1, 48, 48);
        due("count(FAILED)", x.count(FAILED), 12);
    }

    private static void theMostTimes() {
        TestTreeRunner x = chain(1);
        setHooks(x, 0, ABSENT, ABSENT, PASSES, FAILS);
        for (int node = 1; node < NODES; node++) {
            x.body(node, 4, 0);
        }
        due("run(1)", x.run(1), 23);
        due("steps()", x.steps(), 23 * 4 * 3);
        dueTimes("root", x, 0, 0, 0, 92, 92);
        dueCounts("23 tests", x, 0, 23, 0);
    }

    private static void eachHookHasEachOutcome() {
        for (int node = 0; node < 2; node++) {
            for (int which = 0; which < 4; which++) {
                for (int outcome = 0; outcome < 4; outcome++) {
                    TestTreeRunner x = new TestTreeRunner();
                    x.container(0);
                    x.test(1);
                    x.hook(node, which, outcome);
                    x.run(1);
                    String what = "hook " + which + " of " + node + " has " + outcome;
                    boolean stops = (which == BEFORE_ALL || which == BEFORE_EACH) && outcome > PASSES;
                    int carriedOut = outcome == ABSENT ? 0 : 1;
                    due(what + ": times", x.times(node, which), carriedOut);
                    due(what + ": steps()", x.steps(), carriedOut + (stops ? 0 : 1));
                    boolean ofAll = which == BEFORE_ALL || which == AFTER_ALL;
                    due(what + ": its result", x.result(node), ofAll && outcome != ABSENT ? outcome : PASSED);
                    int test = which == BEFORE_ALL && stops ? NOT_RUN : ofAll || outcome == ABSENT ? PASSED : outcome;
                    due(what + ": the test's result", x.result(2), test);
                }
            }
        }
    }

    private static void selected() {
        int[] sets = {0, 1, 2, 3, 4, LEAST, MOST, -1, -2};
        for (int tags : sets) {
            for (int wanted : sets) {
                for (int disabled = -1; disabled < 4; disabled++) {
                    TestTreeRunner x = new TestTreeRunner();
                    x.container(0);
                    x.container(1);
                    x.test(2);
                    x.tags(3, tags);
                    x.disable(disabled, true);
                    x.run(wanted);
                    boolean common = false;
                    for (int bit = 0; bit < 32; bit++) {
                        common |= (tags >>> bit & 1) == 1 && (wanted >>> bit & 1) == 1;
                    }
                    int want = common && disabled == -1 ? PASSED : NOT_RUN;
                    String what = "tags " + tags + ", run " + wanted + ", disabled " + disabled;
                    for (int node = 0; node < 4; node++) {
                        due(what + ": result(" + node + ")", x.result(node), want);
                    }
                }
            }
        }
    }

    private static void disabledAtAnyDepth() {
        for (int disabled = 0; disabled < NODES; disabled++) {
            TestTreeRunner x = chain(23);
            x.hook(0, BEFORE_ALL, PASSES);
            x.disable(disabled, true);
            x.run(1);
            nothingTold("disabled " + disabled, x, NODES);
        }
    }

    /** Containers 1 to 5 each have another reason not to be in use; 6 is in use beside them. */
    private static void notInUse() {
        TestTreeRunner x = new TestTreeRunner();
        for (int node = 1; node <= 6; node++) {
            x.container(0);
        }
        int emptyBelow = x.container(2);
        int untagged = x.test(3);
        int off = x.test(4);
        int below5 = x.test(5);
        int run = x.test(6);
        x.tags(untagged, 2);
        x.disable(off, true);
        x.disable(5, true);
        for (int node = 1; node <= 6; node++) {
            setHooks(x, node, PASSES, PASSES, PASSES, PASSES);
        }
        x.hook(emptyBelow, BEFORE_ALL, FAILS);
        due("run(1)", x.run(1), 0);
        for (int node = 1; node <= 5; node++) {
            nothingToldOf("not in use", x, node);
        }
        int[] others = {emptyBelow, untagged, off, below5};
        for (int node : others) {
            nothingToldOf("not in use", x, node);
        }
        due("in use", x.result(6), PASSED);
        due("selected", x.result(run), PASSED);
        due("steps()", x.steps(), 5);
        due("root", x.result(0), PASSED);
    }

    private static void inUseAtAnyDepth() {
        TestTreeRunner x = chain(23);
        x.tags(23, LEAST);
        x.hook(22, BEFORE_ALL, ABORTS);
        due("run(LEAST)", x.run(LEAST), 0);
        for (int node = 0; node < 22; node++) {
            due("result(" + node + ")", x.result(node), PASSED);
        }
        due("result(22)", x.result(22), ABORTED);
        due("result(23)", x.result(23), NOT_RUN);
        due("steps()", x.steps(), 1);
    }

    private static void rootNotInUse() {
        TestTreeRunner x = new TestTreeRunner();
        setHooks(x, 0, FAILS, FAILS, FAILS, FAILS);
        due("run(-1) without nodes", x.run(-1), 0);
        nothingTold("without nodes", x, 1);
        x.container(0);
        due("run(-1) without tests", x.run(-1), 0);
        nothingTold("without tests", x, 2);
    }

    private static void afterAllAlsoThen() {
        int[] stops = {FAILS, ABORTS};
        for (int stop : stops) {
            for (int at = 0; at < 2; at++) {
                TestTreeRunner x = new TestTreeRunner();
                x.container(0);
                x.test(1);
                x.hook(at, BEFORE_ALL, stop);
                x.hook(at, AFTER_ALL, PASSES);
                x.run(1);
                String what = "BEFORE_ALL of " + at + " has " + stop;
                dueTimes(what, x, at, 1, 1, 0, 0);
                due(what + ": its result", x.result(at), stop);
                due(what + ": the other container", x.result(1 - at), at == 0 ? NOT_RUN : PASSED);
                nothingToldOf(what, x, 2);
                due(what + ": steps()", x.steps(), 2);
            }
        }
    }

    private static void theChildrenOfOneContainerOnly() {
        TestTreeRunner x = new TestTreeRunner();
        x.container(0);
        x.test(1);
        x.container(0);
        x.test(3);
        x.test(0);
        x.hook(1, BEFORE_ALL, FAILS);
        due("run(1)", x.run(1), 0);
        due("below it", x.result(2), NOT_RUN);
        due("beside it", x.result(3), PASSED);
        due("below the one beside it", x.result(4), PASSED);
        due("a test beside it", x.result(5), PASSED);
        dueCounts("one not run", x, 2, 0, 0);
    }

    private static void furtherAttempts() {
        for (int attempts = 1; attempts <= 4; attempts++) {
            for (int failing = 0; failing <= 4; failing++) {
                for (int then = 0; then < 4; then++) {
                    if (then != FAILS) {
                        furtherAttempts(attempts, failing, then);
                    }
                }
            }
        }
    }

    private static void furtherAttempts(int attempts, int failing, int then) {
        TestTreeRunner x = new TestTreeRunner();
        x.test(0);
        x.hook(0, BEFORE_EACH, PASSES);
        int outcomes = 0;
        for (int i = 0; i < 4; i++) {
            outcomes |= (i < failing ? FAILS : then) << (2 * i);
        }
        x.body(1, attempts, outcomes);
        boolean failed = failing >= attempts;
        int made = failed ? attempts : failing + 1;
        String what = attempts + " attempts, " + failing + " fail, then " + then;
        due(what + ": run(1)", x.run(1), failed ? 1 : 0);
        due(what + ": result", x.result(1), failed ? FAILED : then == ABORTS ? ABORTED : PASSED);
        due(what + ": attempts", x.attempts(1), made);
        due(what + ": bodies", x.times(1, 0), made);
        due(what + ": BEFORE_EACH", x.times(0, BEFORE_EACH), made);
    }

    private static void afterEachOfThoseComeTo() {
        for (int stop = 0; stop < 3; stop++) {
            for (int outcome = FAILS; outcome <= ABORTS; outcome++) {
                for (int others = ABSENT; others <= PASSES; others++) {
                    TestTreeRunner x = new TestTreeRunner();
                    x.container(0);
                    x.container(1);
                    x.test(2);
                    for (int node = 0; node < 3; node++) {
                        setHooks(x, node, ABSENT, ABSENT, node == stop ? outcome : others, PASSES);
                    }
                    x.run(1);
                    String what = "BEFORE_EACH of " + stop + " has " + outcome + ", the others " + others;
                    for (int node = 0; node < 3; node++) {
                        int before = node < stop ? others : node == stop ? 1 : 0;
                        dueTimes(what, x, node, 0, 0, before, node <= stop ? 1 : 0);
                    }
                    due(what + ": body", x.times(3, 0), 0);
                    due(what + ": attempts", x.attempts(3), 1);
                    due(what + ": result", x.result(3), outcome);
                }
            }
        }
    }

    private static void afterEachWhateverTheOthers() {
        for (int bits = 0; bits < 256; bits++) {
            TestTreeRunner x = new TestTreeRunner();
            x.container(0);
            x.container(1);
            x.test(2);
            boolean fails = false;
            boolean aborts = false;
            int steps = 1;
            for (int node = 0; node < 3; node++) {
                int outcome = bits >> (2 * node) & 3;
                x.hook(node, AFTER_EACH, outcome);
                fails |= outcome == FAILS;
                aborts |= outcome == ABORTS;
                steps += outcome == ABSENT ? 0 : 1;
            }
            int body = bits >> 6;
            x.body(3, 1, body);
            fails |= body == FAILS;
            aborts |= body == ABORTS;
            String what = "AFTER_EACH and body " + bits;
            due(what + ": run(1)", x.run(1), fails ? 1 : 0);
            due(what + ": steps()", x.steps(), steps);
            due(what + ": result(3)", x.result(3), fails ? FAILED : aborts ? ABORTED : PASSED);
        }
    }

    private static void beforeEachAbortsAndAfterEachFails() {
        TestTreeRunner x = new TestTreeRunner();
        x.test(0);
        x.body(1, 3, 0);
        setHooks(x, 0, ABSENT, ABSENT, ABORTS, FAILS);
        due("run(1)", x.run(1), 1);
        due("result(1)", x.result(1), FAILED);
        due("attempts(1)", x.attempts(1), 3);
        due("times(1, 0)", x.times(1, 0), 0);
        setHooks(x, 0, ABSENT, ABSENT, FAILS, ABORTS);
        due("run(1), the other way round", x.run(1), 1);
        due("result(1), the other way round", x.result(1), FAILED);
    }

    private static void containerResults() {
        for (int before = 0; before < 4; before++) {
            for (int after = 0; after < 4; after++) {
                for (int body = PASSES; body <= ABORTS; body++) {
                    TestTreeRunner x = new TestTreeRunner();
                    x.container(0);
                    x.test(1);
                    x.hook(1, BEFORE_ALL, before);
                    x.hook(1, AFTER_ALL, after);
                    x.hook(1, AFTER_EACH, body);
                    x.body(2, 1, body);
                    boolean open = before == ABSENT || before == PASSES;
                    boolean fails = before == FAILS || after == FAILS;
                    boolean aborts = before == ABORTS || after == ABORTS;
                    String what = "BEFORE_ALL " + before + ", AFTER_ALL " + after + ", below " + body;
                    due(what + ": run(1)", x.run(1), open && body == FAILS ? 1 : 0);
                    due(what + ": result(0)", x.result(0), PASSED);
                    due(what + ": result(1)", x.result(1), fails ? FAILED : aborts ? ABORTED : PASSED);
                    due(what + ": result(2)", x.result(2), open ? body : NOT_RUN);
                }
            }
        }
    }

    private static void anyOtherContainer() {
        TestTreeRunner x = new TestTreeRunner();
        x.container(0);
        x.container(1);
        x.test(2);
        x.hook(0, BEFORE_ALL, ABORTS);
        setHooks(x, 1, FAILS, FAILS, FAILS, FAILS);
        setHooks(x, 2, FAILS, FAILS, FAILS, FAILS);
        due("run(1)", x.run(1), 0);
        due("result(0)", x.result(0), ABORTED);
        for (int node = 1; node < 4; node++) {
            nothingToldOf("in use and not run", x, node);
        }
        due("steps()", x.steps(), 1);
    }

    // ---- Ahead of promises 9 to 13

    private static void askingChangesNothing() {
        int[] numbers = {LEAST, -1, 0, 1, 2, 3, 4, 7, 8, 23, 24, MOST};
        for (int first : numbers) {
            for (int second : numbers) {
                ToIntFunction<TestTreeRunner> asks = x ->
                        x.result(first) + x.times(first, second) + x.count(second) + x.steps() + x.attempts(first);
                due("asks about " + first + ", " + second, looks(BoundaryTests::smallTreeRun, asks),
                        looks(BoundaryTests::smallTreeRun, x -> 0));
            }
        }
    }

    private static void beforeTheFirstRun() {
        nothingTold("a new object", new TestTreeRunner(), 1);
        nothingTold("a small tree", smallTree(), SMALL_NODES);
        nothingTold("a full tree", fullTree(), NODES);
    }

    private static void changedSince() {
        TestTreeRunner x = smallTreeRun();
        List<String> before = asked(smallTreeRun());
        for (int node : SMALL_CONTAINERS) {
            setHooks(x, node, ABORTS, PASSES, FAILS, ABSENT);
        }
        for (int node : SMALL_TESTS) {
            x.body(node, 1, ABORTS);
            x.tags(node, 0);
        }
        for (int node = 0; node < SMALL_NODES; node++) {
            x.disable(node, true);
        }
        due("all asks after a change of everything", asked(x), before);
    }

    private static void addedSince() {
        TestTreeRunner x = new TestTreeRunner();
        x.test(0);
        setHooks(x, 0, PASSES, PASSES, PASSES, PASSES);
        x.run(1);
        for (int node = 2; node < NODES; node++) {
            due("result(" + node + ") ahead of it", x.result(node), BAD_NODE);
            due("attempts(" + node + ") ahead of it", x.attempts(node), BAD_NODE);
            due("times(" + node + ", 0) ahead of it", x.times(node, 0), BAD_NODE);
            due("added", node % 2 == 0 ? x.test(0) : x.container(0), node);
            nothingToldOf("added since", x, node);
        }
        dueCounts("added since", x, 1, 0, 0);
        due("steps()", x.steps(), 5);
        due("result(0)", x.result(0), PASSED);
        dueTimes("older", x, 1, 1, 0, 0, 0);
        due("attempts(1)", x.attempts(1), 1);
        x.run(1);
        dueCounts("the run after", x, 12, 0, 0);
    }

    // ---- Promise 1

    private static void rootAlone() {
        TestTreeRunner x = new TestTreeRunner();
        for (int node = 1; node < NODES; node++) {
            due("result(" + node + ")", x.result(node), BAD_NODE);
        }
        for (int which = 0; which < 4; which++) {
            due("hook(0, " + which + ", 3)", x.hook(0, which, ABORTS), ABSENT);
        }
        due("disable(0, true)", x.disable(0, true), 0);
        nothingTold("a new object", x, 1);
    }

    private static void objectsApart() {
        smallTreeRun();
        fullTreeRun();
        TestTreeRunner x = new TestTreeRunner();
        due("result(1) after others", x.result(1), BAD_NODE);
        due("disable(0, false) after others", x.disable(0, false), 0);
        for (int which = 0; which < 4; which++) {
            due("hook(0, " + which + ", 0) after others", x.hook(0, which, ABSENT), ABSENT);
        }
        nothingTold("a new object after others", x, 1);
    }

    // ---- Promises 2 and 3

    private static void parentIsNotAContainer(boolean asTest) {
        String name = asTest ? "test" : "container";
        for (int parent : NEVER_NODES) {
            refused(name + "(" + parent + ")", BoundaryTests::smallTreeRun,
                    x -> asTest ? x.test(parent) : x.container(parent), BAD_NODE);
        }
        for (int parent = SMALL_NODES; parent < NODES; parent++) {
            int later = parent;
            refused(name + "(" + parent + ")", BoundaryTests::smallTreeRun,
                    x -> asTest ? x.test(later) : x.container(later), BAD_NODE);
        }
        for (int parent : SMALL_TESTS) {
            refused(name + "(" + parent + "), a test", BoundaryTests::smallTreeRun,
                    x -> asTest ? x.test(parent) : x.container(parent), BAD_NODE);
        }
    }

    private static void thereAre24Nodes(boolean asTest) {
        String name = asTest ? "test" : "container";
        for (int parent = 0; parent < 12; parent++) {
            int above = parent;
            refused(name + "(" + parent + ") with 24 nodes", BoundaryTests::fullTreeRun,
                    x -> asTest ? x.test(above) : x.container(above), FULL);
        }
        TestTreeRunner x = new TestTreeRunner();
        for (int node = 1; node < NODES; node++) {
            due(name + "(0) with " + node + " nodes", asTest ? x.test(0) : x.container(0), node);
        }
        due(name + "(0) with 24 nodes", asTest ? x.test(0) : x.container(0), FULL);
    }

    private static void aNewContainer() {
        TestTreeRunner x = new TestTreeRunner();
        setHooks(x, 0, PASSES, FAILS, ABORTS, PASSES);
        for (int node = 1; node < NODES; node++) {
            x.container(node - 1);
            for (int which = 0; which < 4; which++) {
                due("hook(" + node + ", " + which + ", 2)", x.hook(node, which, FAILS), ABSENT);
            }
            due("disable(" + node + ", true)", x.disable(node, true), 0);
            due("result(" + node + ")", x.result(node), NOT_RUN);
        }
    }

    private static void aNewTest() {
        TestTreeRunner x = new TestTreeRunner();
        for (int node = 1; node < NODES; node++) {
            x.test(0);
            due("disable(" + node + ", false)", x.disable(node, false), 0);
            due("run(-2)", x.run(-2), 0);
            nothingToldOf("a run for all tags but 1", x, node);
            due("run(1)", x.run(1), 0);
            due("result(" + node + ")", x.result(node), PASSED);
            due("attempts(" + node + ")", x.attempts(node), 1);
            x.tags(node, 0);
        }
    }

    private static void oneAttemptOnly() {
        TestTreeRunner x = chain(1);
        x.hook(0, AFTER_EACH, FAILS);
        due("run(1)", x.run(1), 23);
        for (int node = 1; node < NODES; node++) {
            due("attempts(" + node + ")", x.attempts(node), 1);
        }
    }

    // ---- Promise 4

    private static void hookOfNoContainer() {
        for (int node : NEVER_NODES) {
            refused("hook(" + node + ", 0, 2)", BoundaryTests::smallTreeRun, x -> x.hook(node, 0, FAILS), BAD_NODE);
            refused("hook(" + node + ", 3, 2)", BoundaryTests::fullTreeRun, x -> x.hook(node, 3, FAILS), BAD_NODE);
        }
        for (int node = SMALL_NODES; node < NODES; node++) {
            int later = node;
            refused("hook(" + node + ", 1, 2)", BoundaryTests::smallTreeRun, x -> x.hook(later, 1, FAILS), BAD_NODE);
        }
        for (int node : SMALL_TESTS) {
            for (int which = 0; which < 4; which++) {
                int one = which;
                refused("hook(" + node + ", " + which + ", 3), a test", BoundaryTests::smallTreeRun,
                        x -> x.hook(node, one, ABORTS), BAD_NODE);
            }
        }
    }

    private static void hookWhichNot0To3() {
        for (int node : SMALL_CONTAINERS) {
            for (int which : NOT_0_TO_3) {
                refused("hook(" + node + ", " + which + ", 2)", BoundaryTests::smallTreeRun,
                        x -> x.hook(node, which, FAILS), BAD_OUTCOME);
            }
        }
    }

    private static void hookOutcomeNot0To3() {
        for (int which = 0; which < 4; which++) {
            int one = which;
            for (int outcome : NOT_0_TO_3) {
                refused("hook(1, " + which + ", " + outcome + ")", BoundaryTests::smallTreeRun,
                        x -> x.hook(1, one, outcome), BAD_OUTCOME);
            }
        }
    }

    private static void hookBothNot0To3() {
        for (int which : NOT_0_TO_3) {
            for (int outcome : NOT_0_TO_3) {
                due("hook(1, " + which + ", " + outcome + ")", smallTree().hook(1, which, outcome), BAD_OUTCOME);
            }
        }
    }

    private static void hookAnswersTheOldOutcome() {
        for (int node = 0; node < NODES; node += 23) {
            for (int which = 0; which < 4; which++) {
                TestTreeRunner x = new TestTreeRunner();
                for (int added = 1; added < NODES; added++) {
                    x.container(0);
                }
                int old = ABSENT;
                for (int next = 0; next < 16; next++) {
                    // All sixteen pairs of an old and a new outcome come up.
                    int outcome = (next + next / 4) % 4;
                    due("hook(" + node + ", " + which + ", " + outcome + ")", x.hook(node, which, outcome), old);
                    old = outcome;
                }
            }
        }
    }

    // ---- Promise 5

    private static void bodyOfNoTest() {
        for (int node : NEVER_NODES) {
            refused("body(" + node + ", 1, 2)", BoundaryTests::smallTreeRun, x -> x.body(node, 1, FAILS), BAD_NODE);
            refused("body(" + node + ", 4, 2)", BoundaryTests::fullTreeRun, x -> x.body(node, 4, FAILS), BAD_NODE);
        }
        for (int node = SMALL_NODES; node < NODES; node++) {
            int later = node;
            refused("body(" + node + ", 1, 2)", BoundaryTests::smallTreeRun, x -> x.body(later, 1, FAILS), BAD_NODE);
        }
        for (int node : SMALL_CONTAINERS) {
            refused("body(" + node + ", 1, 2), a container", BoundaryTests::smallTreeRun,
                    x -> x.body(node, 1, FAILS), BAD_NODE);
        }
    }

    private static void attemptsNot1To4() {
        for (int node : SMALL_TESTS) {
            for (int attempts : NOT_1_TO_4) {
                refused("body(" + node + ", " + attempts + ", 3)", BoundaryTests::smallTreeRun,
                        x -> x.body(node, attempts, ABORTS), BAD_OUTCOME);
            }
        }
    }

    private static void outcomesOfAnyInt() {
        int[] highParts = {0, 1 << 8, 0x55555500, 0xAAAAAA00, 0x7FFFFF00, LEAST, 0xFFFFFF00};
        for (int high : highParts) {
            for (int low = 0; low < 256; low++) {
                for (int attempts = 1; attempts <= 4; attempts++) {
                    outcomesOfAnyInt(attempts, high, low);
                }
            }
        }
    }

    private static void outcomesOfAnyInt(int attempts, int high, int low) {
        int[] each = {low % 4, low / 4 % 4, low / 16 % 4, low / 64};
        int last = 0;
        while (each[last] == FAILS && last + 1 < attempts) {
            last++;
        }
        TestTreeRunner x = new TestTreeRunner();
        x.test(0);
        String what = "body(1, " + attempts + ", " + (high | low) + ")";
        due(what, x.body(1, attempts, high | low), 0);
        due(what + ": run(1)", x.run(1), each[last] == FAILS ? 1 : 0);
        due(what + ": result(1)", x.result(1), each[last] == 0 ? PASSED : each[last]);
        due(what + ": attempts(1)", x.attempts(1), last + 1);
    }

    private static void bodyAgain() {
        TestTreeRunner x = new TestTreeRunner();
        x.test(0);
        x.body(1, 4, FAILS | FAILS << 2 | FAILS << 4 | FAILS << 6);
        due("body(1, 1, 2) after four", x.body(1, 1, FAILS), 0);
        due("run(1)", x.run(1), 1);
        due("attempts(1)", x.attempts(1), 1);
        due("body(1, 2, 2) after one", x.body(1, 2, FAILS), 0);
        due("run(1), attempt 1 is 0 now", x.run(1), 0);
        due("attempts(1)", x.attempts(1), 2);
    }

    // ---- Promise 6

    private static void tagsOfAnyInt() {
        for (int bit = 0; bit < 32; bit++) {
            TestTreeRunner x = new TestTreeRunner();
            int t = x.test(0);
            int u = x.test(0);
            due("tags of bit " + bit, x.tags(t, 1 << bit), 0);
            due("tags but bit " + bit, x.tags(u, ~(1 << bit)), 0);
            x.run(1 << bit);
            due("run of bit " + bit + ": the one that has it", x.result(t), PASSED);
            due("run of bit " + bit + ": the one that has the rest", x.result(u), NOT_RUN);
            x.run(~(1 << bit));
            due("run but bit " + bit + ": the one that has it", x.result(t), NOT_RUN);
            due("run but bit " + bit + ": the one that has the rest", x.result(u), PASSED);
            x.run(-1);
            due("run of all bits", x.count(PASSED), 2);
            x.run(0);
            due("run of no bits", x.count(PASSED), 0);
        }
    }

    private static void noTags() {
        TestTreeRunner x = new TestTreeRunner();
        x.test(0);
        x.hook(0, BEFORE_ALL, FAILS);
        due("tags(1, 0)", x.tags(1, 0), 0);
        int[] sets = {0, 1, LEAST, MOST, -1};
        for (int tags : sets) {
            due("run(" + tags + ")", x.run(tags), 0);
            nothingTold("run(" + tags + ")", x, 2);
        }
        due("tags(1, 1) again", x.tags(1, 1), 0);
        x.run(1);
        due("result(0)", x.result(0), FAILED);
    }

    private static void tagsOfNoTest() {
        for (int node : NEVER_NODES) {
            refused("tags(" + node + ", 8)", BoundaryTests::smallTreeRun, x -> x.tags(node, 8), BAD_NODE);
            refused("tags(" + node + ", 0)", BoundaryTests::fullTreeRun, x -> x.tags(node, 0), BAD_NODE);
        }
        for (int node = SMALL_NODES; node < NODES; node++) {
            int later = node;
            refused("tags(" + node + ", 0)", BoundaryTests::smallTreeRun, x -> x.tags(later, 0), BAD_NODE);
        }
        for (int node : SMALL_CONTAINERS) {
            refused("tags(" + node + ", 0), a container", BoundaryTests::smallTreeRun, x -> x.tags(node, 0), BAD_NODE);
        }
    }

    /** What was said of a node before it was there does not wait for it. */
    private static void saidBeforeItWasThere() {
        TestTreeRunner x = new TestTreeRunner();
        for (int node = 1; node < NODES; node++) {
            due("tags(" + node + ", 0)", x.tags(node, 0), BAD_NODE);
            due("body(" + node + ", 1, 2)", x.body(node, 1, FAILS), BAD_NODE);
            due("hook(" + node + ", 0, 2)", x.hook(node, 0, FAILS), BAD_NODE);
            due("disable(" + node + ", true)", x.disable(node, true), BAD_NODE);
        }
        for (int node = 1; node < NODES; node++) {
            due("added", node % 2 == 0 ? x.container(0) : x.test(node - 1), node);
        }
        due("run(1)", x.run(1), 0);
        dueCounts("as if nothing had been said", x, 12, 0, 0);
        for (int node = 0; node < NODES; node++) {
            due("result(" + node + ")", x.result(node), PASSED);
        }
        due("steps()", x.steps(), 12);
    }

    // ---- Promise 7

    private static void disableEachNode() {
        TestTreeRunner x = fullTree();
        x.disable(21, false);
        boolean[] before = {false, true, true, false, false};
        boolean[] on = {true, true, false, false, true};
        for (int node = 0; node < NODES; node++) {
            for (int i = 0; i < on.length; i++) {
                due("disable(" + node + ", " + on[i] + ")", x.disable(node, on[i]), before[i] ? 1 : 0);
            }
        }
        x.run(-1);
        nothingTold("all disabled", x, NODES);
    }

    private static void disableRoot() {
        TestTreeRunner x = smallTreeRun();
        due("disable(0, true)", x.disable(0, true), 0);
        due("run(-1)", x.run(-1), 0);
        nothingTold("the root is disabled", x, SMALL_NODES);
        due("disable(0, false)", x.disable(0, false), 1);
        due("all there is as before", ranAndAsked(x), ranAndAsked(smallTreeRun()));
    }

    private static void disableNoNode() {
        for (int node : NEVER_NODES) {
            refused("disable(" + node + ", true)", BoundaryTests::smallTreeRun, x -> x.disable(node, true), BAD_NODE);
            refused("disable(" + node + ", false)", BoundaryTests::fullTreeRun, x -> x.disable(node, false), BAD_NODE);
            refused("disable(" + node + ", true)", BoundaryTests::fullTreeRun, x -> x.disable(node, true), BAD_NODE);
        }
        for (int node = SMALL_NODES; node < NODES; node++) {
            int later = node;
            refused("disable(" + node + ", true)", BoundaryTests::smallTreeRun, x -> x.disable(later, true), BAD_NODE);
        }
    }

    // ---- Promise 8

    private static void ofThisRunAlone() {
        TestTreeRunner x = smallTree();
        List<String> once = ranAndAsked(smallTree());
        due("the first run", ranAndAsked(x), once);
        due("the same run again", ranAndAsked(x), once);
        int[] sets = {1, 2, 4, 8, LEAST, 0, -1};
        for (int tags : sets) {
            TestTreeRunner fresh = smallTree();
            TestTreeRunner used = smallTreeRun();
            due("run(" + tags + ") after another", used.run(tags), fresh.run(tags));
            due("all asks after run(" + tags + ") after another", asked(used), asked(fresh));
        }
    }

    private static void noTestSelected() {
        TestTreeRunner x = fullTreeRun();
        due("steps() of the run before", x.steps() > 0, true);
        due("run(8)", x.run(8), 0);
        nothingTold("no test has the tag 8", x, NODES);
        TestTreeRunner y = fullTreeRun();
        due("run(0)", y.run(0), 0);
        nothingTold("a run for no tags", y, NODES);
        TestTreeRunner z = new TestTreeRunner();
        setHooks(z, 0, PASSES, PASSES, PASSES, PASSES);
        due("run(-1) of the root alone", z.run(-1), 0);
        nothingTold("the root alone", z, 1);
    }

    private static void rootDisabled() {
        TestTreeRunner x = fullTreeRun();
        x.disable(0, true);
        due("steps() stays until the run", x.steps() > 0, true);
        due("run(-1)", x.run(-1), 0);
        nothingTold("the root is disabled", x, NODES);
    }

    private static void stoppedSinceTheRunBefore() {
        TestTreeRunner x = new TestTreeRunner();
        x.container(0);
        x.container(1);
        x.test(2);
        due("run(1)", x.run(1), 0);
        due("result(3)", x.result(3), PASSED);
        x.hook(0, BEFORE_ALL, FAILS);
        due("run(1), the root stops", x.run(1), 0);
        due("result(0)", x.result(0), FAILED);
        for (int node = 1; node < 4; node++) {
            nothingToldOf("the root stops", x, node);
        }
        due("steps()", x.steps(), 1);
    }

    private static void howManyFailed() {
        for (int failing = 0; failing <= 23; failing++) {
            TestTreeRunner x = chain(1);
            setHooks(x, 0, ABSENT, FAILS, ABSENT, ABSENT);
            for (int node = 1; node < NODES; node++) {
                x.body(node, 1, node <= failing ? FAILS : node % 2 == 0 ? PASSES : ABORTS);
            }
            due("run(1), " + failing + " fail", x.run(1), failing);
            due("count(FAILED), " + failing + " fail", x.count(FAILED), failing);
        }
    }

    // ---- Promises 9, 10 and 13

    private static void noSuchNode(String name, ToIntFunction<TestTreeRunner> ofNode0, NodeCall call) {
        TestTreeRunner x = new TestTreeRunner();
        due(name + " of node 0", ofNode0.applyAsInt(x), 0);
        for (int node = 1; node < NODES; node++) {
            due(name + " of node " + node + " ahead of it", call.answer(x, node), BAD_NODE);
            due("added", node % 2 == 0 ? x.container(0) : x.test(0), node);
            due(name + " of node " + node, call.answer(x, node), 0);
        }
        for (int node : NEVER_NODES) {
            due(name + " of node " + node, call.answer(x, node), BAD_NODE);
            due(name + " of node " + node + " of a small tree", call.answer(smallTreeRun(), node), BAD_NODE);
        }
        for (int node = SMALL_NODES; node < NODES; node++) {
            due(name + " of node " + node + " of a small tree", call.answer(smallTreeRun(), node), BAD_NODE);
        }
    }

    private interface NodeCall {
        int answer(TestTreeRunner x, int node);
    }

    private static void timesWhichNot0To3() {
        for (int which : NOT_0_TO_3) {
            for (int node = 0; node < SMALL_NODES; node++) {
                due("times(" + node + ", " + which + ")", smallTreeRun().times(node, which), BAD_NODE);
                due("times(" + node + ", " + which + ") before a run", smallTree().times(node, which), BAD_NODE);
            }
            for (int node : NEVER_NODES) {
                due("times(" + node + ", " + which + ")", smallTreeRun().times(node, which), BAD_NODE);
            }
        }
    }

    private static void timesOfATestsOtherNumbers() {
        TestTreeRunner x = chain(1);
        setHooks(x, 0, PASSES, PASSES, PASSES, PASSES);
        for (int node = 1; node < NODES; node++) {
            x.body(node, 4, FAILS | FAILS << 2 | FAILS << 4 | FAILS << 6);
        }
        x.run(1);
        for (int node = 1; node < NODES; node++) {
            dueTimes("a test made four times", x, node, 4, 0, 0, 0);
        }
    }

    private static void countOfAnyOtherNumber() {
        TestTreeRunner x = new TestTreeRunner();
        for (int node = 1; node <= 10; node++) {
            x.test(0);
            x.body(node, 1, node == 1 ? PASSES : node < 4 ? FAILS : ABORTS);
            x.tags(node, node < 7 ? 1 : 2);
        }
        due("count(NOT_RUN) before a run", x.count(NOT_RUN), 0);
        x.run(1);
        dueCounts("one, two and three", x, 1, 2, 3);
        due("count(NOT_RUN), though four are", x.count(NOT_RUN), 0);
        for (int number : NOT_0_TO_3) {
            due("count(" + number + ")", x.count(number), 0);
        }
        due("count(NOT_RUN) without tests", new TestTreeRunner().count(NOT_RUN), 0);
    }

    private static void countOfTestsAlone() {
        int[] outcomes = {PASSES, FAILS, ABORTS};
        for (int outcome : outcomes) {
            TestTreeRunner x = new TestTreeRunner();
            for (int node = 1; node < 12; node++) {
                x.container(0);
                x.hook(node, AFTER_ALL, outcome);
            }
            for (int node = 1; node < 12; node++) {
                x.test(node);
                x.tags(node + 11, node == 1 ? 1 : 3);
            }
            x.run(2);
            dueCounts("containers with " + outcome, x, 10, 0, 0);
        }
    }

    private static void attemptsOfContainersAndTestsNotRun() {
        TestTreeRunner x = fullTreeRun();
        for (int node = 0; node < 12; node++) {
            due("attempts(" + node + "), a container", x.attempts(node), 0);
        }
        due("attempts(12)", x.attempts(12), 2);
        due("attempts(21), disabled", x.attempts(21), 0);
        due("attempts(22), without the tag", x.attempts(22), 0);
        due("attempts(23)", x.attempts(23), 4);
        due("attempts(7), its BEFORE_ALL above failed", smallTreeRun().attempts(7), 0);
    }

    private static void stepsOfNothing() {
        due("steps() of a new object", new TestTreeRunner().steps(), 0);
        TestTreeRunner x = new TestTreeRunner();
        x.test(0);
        x.hook(0, BEFORE_ALL, FAILS);
        x.run(1);
        due("steps() of one hook", x.steps(), 1);
        x.hook(0, BEFORE_ALL, ABSENT);
        x.run(1);
        due("steps() of one body", x.steps(), 1);
        x.run(2);
        due("steps() of nothing", x.steps(), 0);
    }

    // ---- Promise 14

    private static void badNodeBeforeFull() {
        for (int parent : NEVER_NODES) {
            refused("container(" + parent + ") when full", BoundaryTests::fullTreeRun, x -> x.container(parent), BAD_NODE);
            refused("test(" + parent + ") when full", BoundaryTests::fullTreeRun, x -> x.test(parent), BAD_NODE);
        }
        for (int parent = 12; parent < NODES; parent++) {
            int aTest = parent;
            refused("container(" + parent + ") when full", BoundaryTests::fullTreeRun, x -> x.container(aTest), BAD_NODE);
            refused("test(" + parent + ") when full", BoundaryTests::fullTreeRun, x -> x.test(aTest), BAD_NODE);
        }
    }

    private static void hookBadNodeBeforeBadOutcome() {
        int[] nodes = {LEAST, -1, 2, 4, 5, 7, 8, 23, 24, MOST};
        for (int node : nodes) {
            for (int number : NOT_0_TO_3) {
                String what = "hook of " + node + " with " + number;
                refused(what + " for which", BoundaryTests::smallTree, x -> x.hook(node, number, PASSES), BAD_NODE);
                refused(what + " for outcome", BoundaryTests::smallTree, x -> x.hook(node, 0, number), BAD_NODE);
                due(what + " for both", smallTree().hook(node, number, number), BAD_NODE);
            }
        }
    }

    private static void bodyBadNodeBeforeBadOutcome() {
        int[] nodes = {LEAST, -1, 0, 1, 3, 6, 8, 23, 24, MOST};
        for (int node : nodes) {
            for (int attempts : NOT_1_TO_4) {
                refused("body(" + node + ", " + attempts + ", 2)", BoundaryTests::smallTree,
                        x -> x.body(node, attempts, FAILS), BAD_NODE);
            }
        }
    }

    // ---- All of them

    private static void terms() {
        sentence("What it is: at most 512 calls after it has been made", BoundaryTests::fiveHundredAndTwelveCalls);
        sentence("Terms: NODES 0 to 23", BoundaryTests::nodes0To23);
        sentence("Terms: node 0 is the root container, which is always there", BoundaryTests::rootIsAlwaysThere);
        sentence("Terms: each below an older container", BoundaryTests::belowAnOlderContainer);
        sentence("Terms: that one's parent and so on up to the root", BoundaryTests::upToTheRoot);
        sentence("Terms: four HOOKS, up to four ATTEMPTS (the most steps)", BoundaryTests::theMostSteps);
        sentence("Terms: four HOOKS, up to four ATTEMPTS (the most times)", BoundaryTests::theMostTimes);
        sentence("Terms: each with an OUTCOME: ABSENT, or PASSES, FAILS, ABORTS", BoundaryTests::eachHookHasEachOutcome);
        sentence("Terms: SELECTED if it has one of these tags", BoundaryTests::selected);
        sentence("Terms: neither it nor a container above it is disabled", BoundaryTests::disabledAtAnyDepth);
        sentence("Terms: IN USE if it is not disabled, no container above it is, and some selected test is below it",
                BoundaryTests::notInUse);
        sentence("Terms: below it (at any depth)", BoundaryTests::inUseAtAnyDepth);
        sentence("Terms: the root first, if it is in use", BoundaryTests::rootNotInUse);
        sentence("Terms: (also if BEFORE_ALL didn't pass)", BoundaryTests::afterAllAlsoThen);
        sentence("Terms: If it passes or is absent, the children are run", BoundaryTests::theChildrenOfOneContainerOnly);
        sentence("Terms: as long as an attempt FAILED and there are further attempts", BoundaryTests::furtherAttempts);
        sentence("Terms: not of containers below the one whose BEFORE_EACH didn't pass",
                BoundaryTests::afterEachOfThoseComeTo);
        sentence("Terms: all of these, whatever the others' outcomes", BoundaryTests::afterEachWhateverTheOthers);
        sentence("Terms: FAILED if anything carried out in it fails; else it is ABORTED",
                BoundaryTests::beforeEachAbortsAndAfterEachFails);
        sentence("Terms: FAILED if its own BEFORE_ALL or AFTER_ALL was carried out and fails, ... (whatever is below it)",
                BoundaryTests::containerResults);
        sentence("Terms: any other test: NOT_RUN ... any other container: NOT_RUN", BoundaryTests::anyOtherContainer);
        sentence("Terms: The calls below change nothing", BoundaryTests::askingChangesNothing);
        sentence("Terms: before the first one: NOT_RUN and 0", BoundaryTests::beforeTheFirstRun);
        sentence("Terms: What was changed or added since doesn't matter", BoundaryTests::changedSince);
        sentence("Terms: but for nodes added since (NOT_RUN, 0)", BoundaryTests::addedSince);
    }

    private static void promises1To4() {
        sentence("1: The root alone, all its hooks ABSENT, not disabled", BoundaryTests::rootAlone);
        sentence("1: all results NOT_RUN, all counts 0", BoundaryTests::objectsApart);
        sentence("2: parent is not a container: BAD_NODE", () -> parentIsNotAContainer(false));
        sentence("2: there are 24 nodes: FULL", () -> thereAre24Nodes(false));
        sentence("2: all hooks ABSENT", BoundaryTests::aNewContainer);
        sentence("3: parent is not a container: BAD_NODE", () -> parentIsNotAContainer(true));
        sentence("3: there are 24 nodes: FULL", () -> thereAre24Nodes(true));
        sentence("3: with one attempt that PASSES and the tag set 1", BoundaryTests::aNewTest);
        sentence("3: with one attempt", BoundaryTests::oneAttemptOnly);
        sentence("4: node is not a container: BAD_NODE", BoundaryTests::hookOfNoContainer);
        sentence("4: which not in 0 to 3", BoundaryTests::hookWhichNot0To3);
        sentence("4: outcome not in 0 to 3", BoundaryTests::hookOutcomeNot0To3);
        sentence("4: which not in 0 to 3, or outcome not in 0 to 3: BAD_OUTCOME", BoundaryTests::hookBothNot0To3);
        sentence("4: Else answers the old outcome", BoundaryTests::hookAnswersTheOldOutcome);
    }

    private static void promises5To8() {
        sentence("5: node is not a test: BAD_NODE", BoundaryTests::bodyOfNoTest);
        sentence("5: attempts not in 1 to 4: BAD_OUTCOME", BoundaryTests::attemptsNot1To4);
        sentence("5: (outcomes >> (2 * i)) & 3, where 0 counts as PASSES", BoundaryTests::outcomesOfAnyInt);
        sentence("5: there are 'attempts' of them", BoundaryTests::bodyAgain);
        sentence("6: as a set of bits (any int)", BoundaryTests::tagsOfAnyInt);
        sentence("6: as a set of bits (the empty one)", BoundaryTests::noTags);
        sentence("6: node is not a test: BAD_NODE, nothing changes", BoundaryTests::tagsOfNoTest);
        sentence("2 to 7: nothing changes then", BoundaryTests::saidBeforeItWasThere);
        sentence("7: answers 1 if it was disabled before, 0 if not", BoundaryTests::disableEachNode);
        sentence("7: Makes a node (also the root) disabled or not", BoundaryTests::disableRoot);
        sentence("7: No such node: BAD_NODE, nothing changes", BoundaryTests::disableNoNode);
        sentence("8: All results and counts are of this run alone", BoundaryTests::ofThisRunAlone);
        sentence("8: of this run alone, no test selected", BoundaryTests::noTestSelected);
        sentence("8: of this run alone, the root disabled", BoundaryTests::rootDisabled);
        sentence("8: of this run alone, stopped higher up", BoundaryTests::stoppedSinceTheRunBefore);
        sentence("8: Answers how many tests FAILED", BoundaryTests::howManyFailed);
    }

    private static void promises9To14() {
        sentence("9: BAD_NODE if there is no such node", () -> noSuchNode("result", x -> x.result(0), TestTreeRunner::result));
        sentence("10: no such node: BAD_NODE",
                () -> noSuchNode("times, which 0,", x -> x.times(0, 0), (x, node) -> x.times(node, 0)));
        sentence("10: no such node: BAD_NODE",
                () -> noSuchNode("times, which 3,", x -> x.times(0, 3), (x, node) -> x.times(node, 3)));
        sentence("10: which not in 0 to 3: BAD_NODE", BoundaryTests::timesWhichNot0To3);
        sentence("10: (which 1 to 3: 0)", BoundaryTests::timesOfATestsOtherNumbers);
        sentence("11: 0 for any other number", BoundaryTests::countOfAnyOtherNumber);
        sentence("11: How many tests have this result", BoundaryTests::countOfTestsAlone);
        sentence("12: How many hooks and bodies were carried out in all", BoundaryTests::stepsOfNothing);
        sentence("13: no such node: BAD_NODE",
                () -> noSuchNode("attempts", x -> x.attempts(0), TestTreeRunner::attempts));
        sentence("13: 0 for containers and tests not run", BoundaryTests::attemptsOfContainersAndTestsNotRun);
        sentence("14: container and test: BAD_NODE is tested before FULL", BoundaryTests::badNodeBeforeFull);
        sentence("14: hook: BAD_NODE before BAD_OUTCOME", BoundaryTests::hookBadNodeBeforeBadOutcome);
        sentence("14: body: BAD_NODE before BAD_OUTCOME", BoundaryTests::bodyBadNodeBeforeBadOutcome);
    }

    public static void main(String[] args) {
        terms();
        promises1To4();
        promises5To8();
        promises9To14();
        System.out.println(checks + " answers looked at, " + wrong + " not as due");
        if (wrong != 0) {
            System.exit(1);
        }
    }
}
