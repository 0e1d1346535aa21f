public final class TestTreeRunner {
    public static final int BAD_NODE = -1;
    public static final int FULL = -2;
    public static final int BAD_OUTCOME = -3;
    public static final int ABSENT = 0;
    public static final int PASSES = 1;
    public static final int FAILS = 2;
    public static final int ABORTS = 3;
    public static final int NOT_RUN = 0;
    public static final int PASSED = 1;
    public static final int FAILED = 2;
    public static final int ABORTED = 3;

    private static final int ROOT = 0;
    private static final int NODES = 24;
    private static final int HOOKS = 4;
    private static final int HOOK_SLOTS = NODES * HOOKS;
    private static final int MOST_ATTEMPTS = 4;

    private static final int BEFORE_ALL = 0;
    private static final int AFTER_ALL = 1;
    private static final int BEFORE_EACH = 2;
    private static final int AFTER_EACH = 3;

    // A test's body is counted where a container counts its hook 0, so that
    // one look into timesDone serves both kinds of node.
    private static final int BODY = 0;

    // The tree. A parent is always older than its children, so its number is
    // lower: going through the numbers upwards meets every parent first.
    private int nodeCount;
    private final int[] parentOf = new int[NODES];
    private final boolean[] isTest = new boolean[NODES];
    private final boolean[] isDisabled = new boolean[NODES];
    private final int[] hookOutcomes = new int[HOOK_SLOTS];
    private final int[] attemptsAllowed = new int[NODES];
    private final int[] bodyOutcomes = new int[NODES];
    private final int[] tagSets = new int[NODES];

    // What the last run left. Entries of nodes that are not there yet stay 0.
    private final int[] results = new int[NODES];
    private final int[] timesDone = new int[HOOK_SLOTS];
    private final int[] attemptsMade = new int[NODES];
    private int stepsDone;

    // Only of use while a run is made.
    private final boolean[] isReachable = new boolean[NODES];
    private final boolean[] isWanted = new boolean[NODES];
    private final boolean[] runsChildren = new boolean[NODES];
    private final int[] wayUp = new int[NODES];

    public TestTreeRunner() {
        nodeCount = 1;
        stepsDone = 0;
    }

    public int container(int parent) {
        return addNode(parent, false);
    }

    public int test(int parent) {
        int node = addNode(parent, true);
        if (node >= 0) {
            attemptsAllowed[node] = 1;
            bodyOutcomes[node] = PASSES;
            tagSets[node] = 1;
        }
        return node;
    }

    public int hook(int node, int which, int outcome) {
        if (!isContainerNode(node)) {
            return BAD_NODE;
        }
        if (!isHook(which) || outcome < ABSENT || outcome > ABORTS) {
            return BAD_OUTCOME;
        }
        int slot = node * HOOKS + which;
        int old = hookOutcomes[slot];
        hookOutcomes[slot] = outcome;
        return old;
    }

    public int body(int node, int attempts, int outcomes) {
        if (!isTestNode(node)) {
            return BAD_NODE;
        }
        if (attempts < 1 || attempts > MOST_ATTEMPTS) {
            return BAD_OUTCOME;
        }
        attemptsAllowed[node] = attempts;
        bodyOutcomes[node] = outcomes;
        return 0;
    }

    public int tags(int node, int tags) {
        if (!isTestNode(node)) {
            return BAD_NODE;
        }
        tagSets[node] = tags;
        return 0;
    }

    public int disable(int node, boolean on) {
        if (!isNode(node)) {
            return BAD_NODE;
        }
        int old = isDisabled[node] ? 1 : 0;
        isDisabled[node] = on;
        return old;
    }

    public int run(int tags) {
        forgetLastRun();
        findReachable();
        findWanted(tags);
        runWanted();
        return testsWith(FAILED);
    }

    public int result(int node) {
        return isNode(node) ? results[node] : BAD_NODE;
    }

    public int times(int node, int which) {
        if (!isNode(node) || !isHook(which)) {
            return BAD_NODE;
        }
        return timesDone[node * HOOKS + which];
    }

    public int count(int result) {
        if (result < PASSED || result > ABORTED) {
            return 0;
        }
        return testsWith(result);
    }

    public int steps() {
        return stepsDone;
    }

    public int attempts(int node) {
        return isNode(node) ? attemptsMade[node] : BAD_NODE;
    }

    private boolean isNode(int node) {
        return node >= 0 && node < nodeCount;
    }

    private boolean isContainerNode(int node) {
        return isNode(node) && !isTest[node];
    }

    private boolean isTestNode(int node) {
        return isNode(node) && isTest[node];
    }

    private static boolean isHook(int which) {
        return which >= 0 && which < HOOKS;
    }

    private int addNode(int parent, boolean asTest) {
        if (!isContainerNode(parent)) {
            return BAD_NODE;
        }
        if (nodeCount >= NODES) {
            return FULL;
        }
        int node = nodeCount;
        parentOf[node] = parent;
        isTest[node] = asTest;
        nodeCount = node + 1;
        return node;
    }

    private int testsWith(int result) {
        int found = 0;
        for (int node = 0; node < nodeCount; node++) {
            if (isTest[node] && results[node] == result) {
                found++;
            }
        }
        return found;
    }

    private void forgetLastRun() {
        for (int node = 0; node < NODES; node++) {
            results[node] = NOT_RUN;
            attemptsMade[node] = 0;
            runsChildren[node] = false;
        }
        for (int slot = 0; slot < HOOK_SLOTS; slot++) {
            timesDone[slot] = 0;
        }
        stepsDone = 0;
    }

    /** Reachable: neither the node nor a container above it is disabled. */
    private void findReachable() {
        isReachable[ROOT] = !isDisabled[ROOT];
        for (int node = ROOT + 1; node < nodeCount; node++) {
            isReachable[node] = !isDisabled[node] && isReachable[parentOf[node]];
        }
    }

    /**
     * Wanted: a selected test, or a container in use. Whatever is above a
     * selected test is reachable, so handing the mark upwards is enough.
     */
    private void findWanted(int tags) {
        for (int node = 0; node < nodeCount; node++) {
            isWanted[node] = isTest[node] && isReachable[node] && (tagSets[node] & tags) != 0;
        }
        for (int node = nodeCount - 1; node > ROOT; node--) {
            if (isWanted[node]) {
                isWanted[parentOf[node]] = true;
            }
        }
    }

    /**
     * Outcomes are fixed while a run is made and only counts are kept of it,
     * so nobody can tell in which order the nodes were run. The order of their
     * numbers will do: it needs no stack, and a container's BEFORE_ALL is
     * known before its children are looked at.
     */
    private void runWanted() {
        for (int node = 0; node < nodeCount; node++) {
            boolean parentLets = node == ROOT || runsChildren[parentOf[node]];
            if (isWanted[node] && parentLets) {
                if (isTest[node]) {
                    runTest(node);
                } else {
                    runContainer(node);
                }
            }
        }
    }

    private void runContainer(int node) {
        int before = carryOutHook(node, BEFORE_ALL);
        runsChildren[node] = before == ABSENT || before == PASSES;
        int after = carryOutHook(node, AFTER_ALL);
        results[node] = worse(before, after);
    }

    private void runTest(int node) {
        int wayLength = findWayUp(node);
        int allowed = attemptsAllowed[node];
        int made = 0;
        int last = FAILED;
        while (made < allowed && last == FAILED) {
            last = makeAttempt(node, made, wayLength);
            made++;
        }
        attemptsMade[node] = made;
        results[node] = last;
    }

    /** Fills wayUp with the containers above a test, the innermost first, and answers how many. */
    private int findWayUp(int node) {
        int length = 0;
        int at = node;
        while (length < NODES && at != ROOT) {
            at = parentOf[at];
            wayUp[length] = at;
            length++;
        }
        return length;
    }

    private int makeAttempt(int node, int attempt, int wayLength) {
        int worst = PASSED;
        int reached = wayLength;
        while (reached > 0 && worst == PASSED) {
            reached--;
            int before = carryOutHook(wayUp[reached], BEFORE_EACH);
            worst = worse(worst, before);
        }
        if (worst == PASSED) {
            worst = carryOutBody(node, attempt);
        }
        for (int i = reached; i < wayLength; i++) {
            int after = carryOutHook(wayUp[i], AFTER_EACH);
            worst = worse(worst, after);
        }
        return worst;
    }

    private int carryOutHook(int node, int which) {
        int slot = node * HOOKS + which;
        int outcome = hookOutcomes[slot];
        if (outcome != ABSENT) {
            timesDone[slot]++;
            stepsDone++;
        }
        return outcome;
    }

    private int carryOutBody(int node, int attempt) {
        timesDone[node * HOOKS + BODY]++;
        stepsDone++;
        int outcome = (bodyOutcomes[node] >> (2 * attempt)) & 3;
        return outcome == 0 ? PASSES : outcome;
    }

    /**
     * The result of two things together. PASSES, FAILS and ABORTS are the same
     * numbers as PASSED, FAILED and ABORTED, so each may be an outcome or a
     * result; one that is ABSENT does no harm.
     */
    private static int worse(int one, int other) {
        if (one == FAILED || other == FAILED) {
            return FAILED;
        }
        if (one == ABORTED || other == ABORTED) {
            return ABORTED;
        }
        return PASSED;
    }
}
