/** The promises of the document, one method for each, with answers worked out by hand. */
public final class PromiseTests {
    private static final int BAD_NODE = TestTreeRunner.BAD_NODE;
    private static final int FULL = TestTreeRunner.FULL;
    private static final int BAD_OUTCOME = TestTreeRunner.BAD_OUTCOME;
    private static final int ABSENT = TestTreeRunner.ABSENT;
    private static final int PASSES = TestTreeRunner.PASSES;
    private static final int FAILS = TestTreeRunner.FAILS;
    private static final int ABORTS = TestTreeRunner.ABORTS;
    private static final int NOT_RUN = TestTreeRunner.NOT_RUN;
    private static final int PASSED = TestTreeRunner.PASSED;
    private static final int FAILED = TestTreeRunner.FAILED;
    private static final int ABORTED = TestTreeRunner.ABORTED;

    private static final int BEFORE_ALL = 0;
    private static final int AFTER_ALL = 1;
    private static final int BEFORE_EACH = 2;
    private static final int AFTER_EACH = 3;

    private static final int LEAST = Integer.MIN_VALUE;
    private static final int MOST = Integer.MAX_VALUE;

    private static int checks = 0;
    private static int wrong = 0;

    private static void due(String what, int got, int want) {
        checks++;
        if (got != want) {
            wrong++;
            System.out.println(what + " answered " + got + ", due is " + want);
        }
    }

    /** The outcomes of a body's attempts, in their order, as body() takes them. */
    private static int outcomes(int... each) {
        int bits = 0;
        for (int i = 0; i < each.length; i++) {
            bits |= each[i] << (2 * i);
        }
        return bits;
    }

    private static void dueTimes(String what, TestTreeRunner x, int node, int... want) {
        for (int which = 0; which < 4; which++) {
            due(what + ": times(" + node + ", " + which + ")", x.times(node, which), want[which]);
        }
    }

    private static void dueCounts(String what, TestTreeRunner x, int passed, int failed, int aborted) {
        due(what + ": count(PASSED)", x.count(PASSED), passed);
        due(what + ": count(FAILED)", x.count(FAILED), failed);
        due(what + ": count(ABORTED)", x.count(ABORTED), aborted);
    }

    private static void constants() {
        int[] got = {BAD_NODE, FULL, BAD_OUTCOME, ABSENT, PASSES, FAILS, ABORTS, NOT_RUN, PASSED, FAILED, ABORTED};
        int[] want = {-1, -2, -3, 0, 1, 2, 3, 0, 1, 2, 3};
        for (int i = 0; i < want.length; i++) {
            due("constant " + i, got[i], want[i]);
        }
    }

    private static void promise1NewObject() {
        TestTreeRunner x = new TestTreeRunner();
        due("1: result of the root", x.result(0), NOT_RUN);
        due("1: there is no node 1", x.result(1), BAD_NODE);
        dueTimes("1", x, 0, 0, 0, 0, 0);
        dueCounts("1", x, 0, 0, 0);
        due("1: steps", x.steps(), 0);
        due("1: attempts", x.attempts(0), 0);
        for (int which = 0; which < 4; which++) {
            due("1: old hook " + which, x.hook(0, which, ABSENT), ABSENT);
        }
        due("1: disabled before", x.disable(0, false), 0);
        due("1: run of the root alone", x.run(-1), 0);
        due("1: the root alone is not in use", x.result(0), NOT_RUN);

        TestTreeRunner busy = new TestTreeRunner();
        busy.test(0);
        busy.run(1);
        due("1: objects share nothing", new TestTreeRunner().steps(), 0);
        due("1: objects share no nodes", new TestTreeRunner().result(1), BAD_NODE);
    }

    private static void promise2Container() {
        TestTreeRunner x = new TestTreeRunner();
        due("2: below the root", x.container(0), 1);
        due("2: below a container", x.container(1), 2);
        due("2: result of a new one", x.result(2), NOT_RUN);
        for (int which = 0; which < 4; which++) {
            due("2: old hook " + which, x.hook(2, which, ABSENT), ABSENT);
        }
        due("2: disabled before", x.disable(2, false), 0);
        due("2: below no node", x.container(3), BAD_NODE);
        due("2: below -1", x.container(-1), BAD_NODE);
        due("2: below 24", x.container(24), BAD_NODE);
        due("2: below the least int", x.container(LEAST), BAD_NODE);
        due("2: below the most int", x.container(MOST), BAD_NODE);
        due("2: a test", x.test(2), 3);
        due("2: below a test", x.container(3), BAD_NODE);
        due("2: nothing had been added", x.result(4), BAD_NODE);
        due("2: after the wrong ones", x.container(2), 4);
        due("2: it is a container", x.tags(4, 1), BAD_NODE);
    }

    private static void promise2And3Full() {
        for (int kind = 0; kind < 2; kind++) {
            TestTreeRunner x = new TestTreeRunner();
            for (int node = 1; node < 24; node++) {
                due("2/3: node " + node, node % 2 == kind ? x.test(0) : x.container(0), node);
            }
            due("2: container when full", x.container(0), FULL);
            due("3: test when full", x.test(0), FULL);
            due("2/3: no node 24", x.result(24), BAD_NODE);
            due("2/3: the last node is there", x.result(23), NOT_RUN);
            due("2/3: run when full", x.run(1), 0);
            due("2/3: tests when full", x.count(PASSED), 11 + kind);
            due("2: container when full, again", x.container(0), FULL);
            due("3: test when full, again", x.test(0), FULL);
            due("2/3: nothing changed", x.count(PASSED), 11 + kind);
        }
    }

    private static void deepestTree() {
        TestTreeRunner x = new TestTreeRunner();
        for (int node = 1; node < 23; node++) {
            due("2: chain", x.container(node - 1), node);
        }
        due("3: below the chain", x.test(22), 23);
        for (int node = 0; node < 23; node++) {
            for (int which = 0; which < 4; which++) {
                x.hook(node, which, PASSES);
            }
        }
        x.body(23, 4, outcomes(FAILS, FAILS, FAILS, FAILS));
        due("8: deepest tree", x.run(1), 1);
        due("12: deepest tree", x.steps(), 23 * 2 + 4 * (23 * 2 + 1));
        dueTimes("10: deepest tree", x, 22, 1, 1, 4, 4);
    }

    private static void promise3Test() {
        TestTreeRunner x = new TestTreeRunner();
        due("3: below the root", x.test(0), 1);
        due("3: result of a new one", x.result(1), NOT_RUN);
        due("3: attempts of a new one", x.attempts(1), 0);
        due("3: below itself", x.test(1), BAD_NODE);
        due("3: below no node", x.test(2), BAD_NODE);
        due("3: below -1", x.test(-1), BAD_NODE);
        due("3: below the least int", x.test(LEAST), BAD_NODE);
        due("3: below the most int", x.test(MOST), BAD_NODE);
        due("3: nothing had been added", x.result(2), BAD_NODE);
        due("3: it is a test", x.hook(1, 0, PASSES), BAD_NODE);
        due("3: disabled before", x.disable(1, false), 0);
        x.run(-2);
        due("3: no tag but 1", x.result(1), NOT_RUN);
        x.run(1);
        due("3: it passes", x.result(1), PASSED);
        due("3: one attempt", x.attempts(1), 1);
        x.hook(0, AFTER_EACH, FAILS);
        x.run(1);
        due("3: one attempt only", x.attempts(1), 1);
        due("3: one step for it", x.times(1, 0), 1);
    }

    private static void promise4Hook() {
        TestTreeRunner x = new TestTreeRunner();
        int c = x.container(0);
        int t = x.test(c);
        for (int which = 0; which < 4; which++) {
            due("4: absent before", x.hook(c, which, FAILS), ABSENT);
            due("4: fails before", x.hook(c, which, ABORTS), FAILS);
            due("4: aborts before", x.hook(c, which, PASSES), ABORTS);
            due("4: passes before", x.hook(c, which, ABSENT), PASSES);
            due("4: absent again", x.hook(c, which, which), ABSENT);
        }
        for (int which = 0; which < 4; which++) {
            due("4: each hook for itself", x.hook(c, which, which), which);
            due("4: the root's are its own", x.hook(0, which, ABSENT), ABSENT);
        }
        due("4: a test", x.hook(t, 0, PASSES), BAD_NODE);
        due("4: no node", x.hook(3, 0, PASSES), BAD_NODE);
        due("4: node -1", x.hook(-1, 0, PASSES), BAD_NODE);
        due("4: node least", x.hook(LEAST, 0, PASSES), BAD_NODE);
        due("4: node most", x.hook(MOST, 0, PASSES), BAD_NODE);
        int[] bad = {-1, 4, LEAST, MOST};
        for (int number : bad) {
            due("4: which " + number, x.hook(c, number, PASSES), BAD_OUTCOME);
            due("4: outcome " + number, x.hook(c, 3, number), BAD_OUTCOME);
        }
        for (int which = 0; which < 4; which++) {
            due("4: nothing changed at c", x.hook(c, which, ABSENT), which);
            due("4: nothing changed at the root", x.hook(0, which, ABSENT), ABSENT);
        }
    }

    private static void promise5Body() {
        TestTreeRunner x = new TestTreeRunner();
        int t = x.test(0);
        due("5: set", x.body(t, 4, outcomes(FAILS, FAILS, FAILS, ABORTS)), 0);
        due("5: four attempts", x.run(1), 0);
        due("5: the last one counts", x.result(t), ABORTED);
        due("5: all four made", x.attempts(t), 4);

        int[] badAttempts = {0, 5, -1, LEAST, MOST};
        for (int number : badAttempts) {
            due("5: attempts " + number, x.body(t, number, 0), BAD_OUTCOME);
        }
        int[] badNodes = {0, 2, -1, 24, LEAST, MOST};
        for (int node : badNodes) {
            due("5: node " + node, x.body(node, 1, 0), BAD_NODE);
        }
        x.run(1);
        due("5: nothing changed", x.result(t), ABORTED);
        due("5: attempts not changed", x.attempts(t), 4);

        due("5: one attempt", x.body(t, 1, outcomes(FAILS, PASSES)), 0);
        due("5: it fails", x.run(1), 1);
        due("5: no second one", x.attempts(t), 1);

        x.body(t, 3, outcomes(FAILS, 0, FAILS));
        due("5: 0 counts as PASSES", x.run(1), 0);
        due("5: passed at attempt 1", x.result(t), PASSED);
        due("5: two made", x.attempts(t), 2);

        x.body(t, 1, 0);
        x.run(1);
        due("5: 0 at attempt 0", x.result(t), PASSED);
        dueCounts("5: 0 at attempt 0", x, 1, 0, 0);

        x.body(t, 4, -1);
        x.run(1);
        due("5: all bits: aborts", x.result(t), ABORTED);
        due("5: all bits: one made", x.attempts(t), 1);

        x.body(t, 4, LEAST | outcomes(FAILS, FAILS, FAILS, FAILS));
        due("5: high bits don't matter", x.run(1), 1);
        due("5: high bits: four made", x.attempts(t), 4);
        x.body(t, 4, 256 * FAILS);
        due("5: bits of an attempt 4 don't matter", x.run(1), 0);
    }

    private static void promise6Tags() {
        TestTreeRunner x = new TestTreeRunner();
        int t = x.test(0);
        int u = x.test(0);
        due("6: set", x.tags(t, 6), 0);
        int[] badNodes = {0, 3, -1, 24, LEAST, MOST};
        for (int node : badNodes) {
            due("6: node " + node, x.tags(node, 0), BAD_NODE);
        }
        x.run(1);
        due("6: not 1 any more", x.result(t), NOT_RUN);
        due("6: the other one's are its own", x.result(u), PASSED);
        x.run(4);
        due("6: one of two tags", x.result(t), PASSED);
        due("6: the other one hasn't it", x.result(u), NOT_RUN);
        x.run(10);
        due("6: one tag in common", x.result(t), PASSED);
        x.run(8);
        due("6: no tag in common", x.result(t), NOT_RUN);
        due("6: the highest bit", x.tags(t, LEAST), 0);
        x.run(MOST);
        due("6: all but the highest", x.result(t), NOT_RUN);
        x.run(LEAST);
        due("6: the highest alone", x.result(t), PASSED);
        due("6: no tags", x.tags(t, 0), 0);
        x.run(-1);
        due("6: never selected", x.result(t), NOT_RUN);
        due("6: all tags", x.tags(t, -1), 0);
        x.run(0);
        due("6: a run for no tags", x.result(t), NOT_RUN);
        due("6: a run for no tags, root", x.result(0), NOT_RUN);
        x.run(1 << 17);
        due("6: any tag", x.result(t), PASSED);
    }

    private static void promise7Disable() {
        TestTreeRunner x = new TestTreeRunner();
        int c = x.container(0);
        int d = x.container(c);
        int t = x.test(d);
        int u = x.test(0);
        for (int node = 0; node <= u; node++) {
            due("7: not disabled before", x.disable(node, true), 0);
            due("7: disabled before", x.disable(node, true), 1);
            due("7: disabled before, off", x.disable(node, false), 1);
            due("7: not disabled before, off", x.disable(node, false), 0);
        }
        int[] badNodes = {5, -1, 24, LEAST, MOST};
        for (int node : badNodes) {
            due("7: node " + node, x.disable(node, true), BAD_NODE);
        }
        x.run(1);
        due("7: nothing disabled", x.count(PASSED), 2);
        int[] ways = {t, d, c};
        for (int node : ways) {
            x.disable(node, true);
            x.run(1);
            due("7: test with " + node + " disabled", x.result(t), NOT_RUN);
            due("7: its parent with " + node + " disabled", x.result(d), NOT_RUN);
            due("7: that one's parent with " + node + " disabled", x.result(c), NOT_RUN);
            due("7: the other test", x.result(u), PASSED);
            due("7: the root", x.result(0), PASSED);
            x.disable(node, false);
        }
        x.hook(0, BEFORE_ALL, PASSES);
        x.disable(0, true);
        due("7: root disabled", x.run(1), 0);
        for (int node = 0; node <= u; node++) {
            due("7: root disabled, node " + node, x.result(node), NOT_RUN);
        }
        due("7: root disabled, steps", x.steps(), 0);
        x.disable(0, false);
        x.run(1);
        due("7: root back", x.count(PASSED), 2);
    }

    private static void promise8Run() {
        TestTreeRunner x = new TestTreeRunner();
        int a = x.test(0);
        int b = x.test(0);
        int c = x.test(0);
        x.body(a, 1, FAILS);
        x.body(b, 1, ABORTS);
        due("8: answers the FAILED ones", x.run(1), 1);
        dueCounts("8", x, 1, 1, 1);
        x.body(c, 2, outcomes(FAILS, FAILS));
        due("8: two FAILED", x.run(1), 2);
        due("8: steps of this run alone", x.steps(), 4);
        due("8: attempts of this run alone", x.attempts(c), 2);
        due("8: times of this run alone", x.times(c, 0), 2);
        due("8: nothing selected", x.run(2), 0);
        dueCounts("8: nothing selected", x, 0, 0, 0);
        due("8: steps gone", x.steps(), 0);
        due("8: result gone", x.result(c), NOT_RUN);
        due("8: root's result gone", x.result(0), NOT_RUN);
        due("8: attempts gone", x.attempts(c), 0);
        due("8: times gone", x.times(c, 0), 0);
        x.hook(0, BEFORE_ALL, FAILS);
        due("8: failed containers aren't counted", x.run(1), 0);
    }

    private static void containerClosedSinceTheLastRun() {
        TestTreeRunner x = new TestTreeRunner();
        int c = x.container(0);
        int d = x.container(c);
        int t = x.test(d);
        x.run(1);
        due("8: open", x.result(t), PASSED);
        x.hook(0, BEFORE_ALL, ABORTS);
        x.run(1);
        due("8: closed, root", x.result(0), ABORTED);
        due("8: closed, container", x.result(c), NOT_RUN);
        due("8: closed, container deeper", x.result(d), NOT_RUN);
        due("8: closed, test", x.result(t), NOT_RUN);
        due("8: closed, steps", x.steps(), 1);
    }

    private static void beforeAndAfterAll() {
        int[] outcomes = {ABSENT, PASSES, FAILS, ABORTS};
        for (int before : outcomes) {
            for (int after : outcomes) {
                TestTreeRunner x = new TestTreeRunner();
                int c = x.container(0);
                int d = x.container(c);
                int t = x.test(c);
                int u = x.test(d);
                int empty = x.container(c);
                x.hook(c, BEFORE_ALL, before);
                x.hook(c, AFTER_ALL, after);
                x.hook(d, BEFORE_ALL, PASSES);
                x.hook(d, AFTER_ALL, PASSES);
                x.hook(empty, BEFORE_ALL, FAILS);
                x.hook(empty, AFTER_ALL, FAILS);
                String what = "8: BEFORE_ALL " + before + ", AFTER_ALL " + after;
                boolean goesOn = before == ABSENT || before == PASSES;
                int ran = goesOn ? 1 : 0;
                due(what, x.run(1), 0);
                int want = before == FAILS || after == FAILS ? FAILED
                        : before == ABORTS || after == ABORTS ? ABORTED : PASSED;
                due(what + ", container", x.result(c), want);
                due(what + ", root", x.result(0), PASSED);
                due(what + ", test", x.result(t), goesOn ? PASSED : NOT_RUN);
                due(what + ", test deeper", x.result(u), goesOn ? PASSED : NOT_RUN);
                due(what + ", container deeper", x.result(d), goesOn ? PASSED : NOT_RUN);
                due(what + ", empty container", x.result(empty), NOT_RUN);
                due(what + ", attempts", x.attempts(u), ran);
                int hooks = (before == ABSENT ? 0 : 1) + (after == ABSENT ? 0 : 1);
                dueTimes(what, x, c, before == ABSENT ? 0 : 1, after == ABSENT ? 0 : 1, 0, 0);
                dueTimes(what, x, d, ran, ran, 0, 0);
                dueTimes(what, x, empty, 0, 0, 0, 0);
                due(what + ", steps", x.steps(), hooks + 4 * ran);
            }
        }
    }

    /** Three containers on the way down; the middle one's BEFORE_EACH doesn't pass. */
    private static void beforeEachStopsTheWayDown() {
        int[] stops = {FAILS, ABORTS};
        for (int stop : stops) {
            TestTreeRunner x = new TestTreeRunner();
            int c = x.container(0);
            int d = x.container(c);
            int t = x.test(d);
            int u = x.test(0);
            for (int node = 0; node <= d; node++) {
                x.hook(node, BEFORE_EACH, PASSES);
                x.hook(node, AFTER_EACH, PASSES);
            }
            x.hook(c, BEFORE_EACH, stop);
            x.body(t, 2, outcomes(PASSES, PASSES));
            int made = stop == FAILS ? 2 : 1;
            String what = "8: BEFORE_EACH " + stop;
            due(what, x.run(1), stop == FAILS ? 1 : 0);
            due(what + ", test", x.result(t), stop == FAILS ? FAILED : ABORTED);
            due(what + ", other test", x.result(u), PASSED);
            due(what + ", attempts", x.attempts(t), made);
            dueTimes(what + ", body", x, t, 0, 0, 0, 0);
            dueTimes(what + ", root", x, 0, 0, 0, made + 1, made + 1);
            dueTimes(what + ", middle", x, c, 0, 0, made, made);
            dueTimes(what + ", innermost", x, d, 0, 0, 0, 0);
            due(what + ", steps", x.steps(), 4 * made + 3);
            for (int node = 0; node <= d; node++) {
                due(what + ", container", x.result(node), PASSED);
            }
        }
    }

    private static void absentBeforeEachStillHasAfterEach() {
        TestTreeRunner x = new TestTreeRunner();
        int c = x.container(0);
        int d = x.container(c);
        int t = x.test(d);
        x.hook(0, AFTER_EACH, PASSES);
        x.hook(c, BEFORE_EACH, ABORTS);
        x.hook(d, AFTER_EACH, FAILS);
        due("8: below the stop", x.run(1), 0);
        due("8: absent above the stop", x.times(0, AFTER_EACH), 1);
        due("8: absent below the stop", x.times(d, AFTER_EACH), 0);
        due("8: aborted", x.result(t), ABORTED);
        x.hook(c, BEFORE_EACH, ABSENT);
        due("8: all absent", x.run(1), 1);
        due("8: absent, innermost", x.times(d, AFTER_EACH), 1);
        due("8: absent, root", x.times(0, AFTER_EACH), 1);
        due("8: absent isn't carried out", x.times(c, BEFORE_EACH), 0);
        due("8: absent, steps", x.steps(), 3);
    }

    private static void afterEachAllCarriedOut() {
        int[] outcomes = {PASSES, FAILS, ABORTS};
        for (int body : outcomes) {
            for (int inner : outcomes) {
                for (int outer : outcomes) {
                    TestTreeRunner x = new TestTreeRunner();
                    int c = x.container(0);
                    int t = x.test(c);
                    x.body(t, 1, body);
                    x.hook(c, AFTER_EACH, inner);
                    x.hook(0, AFTER_EACH, outer);
                    String what = "8: body " + body + ", AFTER_EACH " + inner + ", " + outer;
                    boolean fails = body == FAILS || inner == FAILS || outer == FAILS;
                    boolean aborts = body == ABORTS || inner == ABORTS || outer == ABORTS;
                    due(what, x.run(1), fails ? 1 : 0);
                    due(what + ", result", x.result(t), fails ? FAILED : aborts ? ABORTED : PASSED);
                    due(what + ", steps", x.steps(), 3);
                    due(what + ", container", x.result(c), PASSED);
                    dueTimes(what, x, 0, 0, 0, 0, 1);
                    dueTimes(what, x, c, 0, 0, 0, 1);
                }
            }
        }
    }

    private static void furtherAttempts() {
        TestTreeRunner x = new TestTreeRunner();
        int t = x.test(0);
        x.hook(0, BEFORE_EACH, PASSES);
        x.hook(0, AFTER_EACH, PASSES);
        x.hook(0, BEFORE_ALL, PASSES);
        x.body(t, 4, outcomes(FAILS, FAILS, PASSES, FAILS));
        due("8: passes at last", x.run(1), 0);
        due("8: result of the last attempt", x.result(t), PASSED);
        dueTimes("8: hooks of each attempt", x, 0, 1, 0, 3, 3);
        dueTimes("8: bodies", x, t, 3, 0, 0, 0);
        due("8: steps of all attempts", x.steps(), 10);
        x.body(t, 4, outcomes(ABORTS, PASSES));
        x.run(1);
        due("8: aborted isn't made again", x.attempts(t), 1);
        due("8: aborted", x.result(t), ABORTED);
        x.hook(0, AFTER_EACH, FAILS);
        due("8: a failing AFTER_EACH is made again", x.run(1), 1);
        due("8: as often as there are attempts", x.attempts(t), 4);
        due("8: failed by AFTER_EACH alone", x.result(t), FAILED);
    }

    private static void promise9Result() {
        TestTreeRunner x = new TestTreeRunner();
        int c = x.container(0);
        int t = x.test(c);
        x.hook(c, AFTER_ALL, ABORTS);
        x.body(t, 1, FAILS);
        x.run(1);
        int added = x.test(c);
        int addedContainer = x.container(c);
        x.body(t, 1, PASSES);
        x.tags(t, 0);
        x.disable(0, true);
        x.hook(c, AFTER_ALL, FAILS);
        due("9: test", x.result(t), FAILED);
        due("9: container", x.result(c), ABORTED);
        due("9: root, whatever is below", x.result(0), PASSED);
        due("9: test added since", x.result(added), NOT_RUN);
        due("9: container added since", x.result(addedContainer), NOT_RUN);
        int[] badNodes = {5, 23, 24, -1, LEAST, MOST};
        for (int node : badNodes) {
            due("9: node " + node, x.result(node), BAD_NODE);
        }
        due("9: asking changes nothing", x.result(t), FAILED);
    }

    private static void promise10Times() {
        TestTreeRunner x = new TestTreeRunner();
        int c = x.container(0);
        int t = x.test(c);
        int u = x.test(c);
        x.hook(c, BEFORE_ALL, PASSES);
        x.hook(c, AFTER_ALL, FAILS);
        x.hook(c, BEFORE_EACH, PASSES);
        x.hook(c, AFTER_EACH, ABORTS);
        x.body(t, 3, outcomes(FAILS, FAILS, FAILS));
        x.run(1);
        dueTimes("10: container", x, c, 1, 1, 4, 4);
        dueTimes("10: root", x, 0, 0, 0, 0, 0);
        dueTimes("10: test", x, t, 3, 0, 0, 0);
        dueTimes("10: other test", x, u, 1, 0, 0, 0);
        x.hook(c, BEFORE_ALL, ABSENT);
        x.body(t, 1, PASSES);
        int added = x.test(c);
        int addedContainer = x.container(c);
        dueTimes("10: changed since", x, c, 1, 1, 4, 4);
        dueTimes("10: changed since, test", x, t, 3, 0, 0, 0);
        dueTimes("10: added since", x, added, 0, 0, 0, 0);
        dueTimes("10: container added since", x, addedContainer, 0, 0, 0, 0);
        int[] badNodes = {6, 24, -1, LEAST, MOST};
        for (int node : badNodes) {
            due("10: node " + node, x.times(node, 0), BAD_NODE);
        }
        int[] badWhich = {-1, 4, LEAST, MOST};
        for (int which : badWhich) {
            due("10: container, which " + which, x.times(c, which), BAD_NODE);
            due("10: test, which " + which, x.times(t, which), BAD_NODE);
        }
    }

    private static void promise11Count() {
        TestTreeRunner x = new TestTreeRunner();
        int c = x.container(0);
        for (int i = 0; i < 6; i++) {
            int t = x.test(c);
            x.body(t, 1, i == 0 ? PASSES : i < 3 ? FAILS : ABORTS);
        }
        int unselected = x.test(c);
        x.tags(unselected, 2);
        dueCounts("11: before the first run", x, 0, 0, 0);
        x.run(1);
        dueCounts("11: tests, not containers", x, 1, 2, 3);
        int[] others = {NOT_RUN, -1, 4, LEAST, MOST};
        for (int number : others) {
            due("11: count(" + number + ")", x.count(number), 0);
        }
        x.test(0);
        x.disable(c, true);
        dueCounts("11: changed since", x, 1, 2, 3);
        due("11: count(NOT_RUN) with one added", x.count(NOT_RUN), 0);
    }

    private static void promise12Steps() {
        TestTreeRunner x = new TestTreeRunner();
        int c = x.container(0);
        int t = x.test(c);
        due("12: before the first run", x.steps(), 0);
        x.run(1);
        due("12: a body alone", x.steps(), 1);
        for (int which = 0; which < 4; which++) {
            x.hook(0, which, PASSES);
            x.hook(c, which, PASSES);
        }
        x.test(0);
        due("12: changed since", x.steps(), 1);
        x.run(1);
        due("12: hooks and bodies", x.steps(), 4 + 5 + 3);
        x.body(t, 2, outcomes(FAILS, FAILS));
        x.run(1);
        due("12: with a second attempt", x.steps(), 4 + 10 + 3);
        due("12: asking changes nothing", x.steps(), 4 + 10 + 3);
        x.run(2);
        due("12: nothing in use", x.steps(), 0);
    }

    private static void promise13Attempts() {
        TestTreeRunner x = new TestTreeRunner();
        int c = x.container(0);
        int t = x.test(c);
        int u = x.test(0);
        x.body(t, 3, outcomes(FAILS, FAILS, FAILS));
        x.body(u, 4, outcomes(FAILS, PASSES));
        x.tags(u, 2);
        due("13: before the first run", x.attempts(t), 0);
        x.run(1);
        due("13: all fail", x.attempts(t), 3);
        due("13: not run", x.attempts(u), 0);
        due("13: container", x.attempts(c), 0);
        due("13: root", x.attempts(0), 0);
        int added = x.test(c);
        x.body(t, 1, PASSES);
        due("13: changed since", x.attempts(t), 3);
        due("13: added since", x.attempts(added), 0);
        int[] badNodes = {5, 24, -1, LEAST, MOST};
        for (int node : badNodes) {
            due("13: node " + node, x.attempts(node), BAD_NODE);
        }
        x.hook(0, BEFORE_EACH, FAILS);
        x.run(2);
        due("13: attempts without a body", x.attempts(u), 4);
        due("13: no body", x.times(u, 0), 0);
        due("13: not run any more", x.attempts(t), 0);
    }

    private static void promise14Order() {
        TestTreeRunner x = new TestTreeRunner();
        int t = x.test(0);
        due("14: hook, test and which", x.hook(t, 4, PASSES), BAD_NODE);
        due("14: hook, test and outcome", x.hook(t, 0, 4), BAD_NODE);
        due("14: hook, no node and both", x.hook(-1, -1, -1), BAD_NODE);
        due("14: body, container and attempts", x.body(0, 0, 0), BAD_NODE);
        due("14: body, no node and attempts", x.body(2, 5, 0), BAD_NODE);
        for (int node = 2; node < 24; node++) {
            x.container(0);
        }
        due("14: container, full and test", x.container(t), BAD_NODE);
        due("14: container, full and no node", x.container(24), BAD_NODE);
        due("14: test, full and test", x.test(t), BAD_NODE);
        due("14: test, full and no node", x.test(-1), BAD_NODE);
        due("14: container, full", x.container(23), FULL);
        due("14: test, full", x.test(23), FULL);
    }

    public static void main(String[] args) {
        constants();
        promise1NewObject();
        promise2Container();
        promise2And3Full();
        deepestTree();
        promise3Test();
        promise4Hook();
        promise5Body();
        promise6Tags();
        promise7Disable();
        promise8Run();
        containerClosedSinceTheLastRun();
        beforeAndAfterAll();
        beforeEachStopsTheWayDown();
        absentBeforeEachStillHasAfterEach();
        afterEachAllCarriedOut();
        furtherAttempts();
        promise9Result();
        promise10Times();
        promise11Count();
        promise12Steps();
        promise13Attempts();
        promise14Order();
        System.out.println(checks + " answers looked at, " + wrong + " not as due");
        if (wrong != 0) {
            System.exit(1);
        }
    }
}
