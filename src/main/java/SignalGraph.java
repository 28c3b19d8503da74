// Events and cells that depend on each other, in transactions.
public final class SignalGraph {
    public static final int BAD = -1;
    public static final int FULL = -2;

    private static final int MOST_NODES = 24;
    private static final int NO_EVENT = -1;
    private static final int EVENT_SORT = 1;
    private static final int CELL_SORT = 2;

    private static final int SOURCE = 0;
    private static final int MAP = 1;
    private static final int FILTER = 2;
    private static final int MERGE = 3;
    private static final int HOLD = 4;
    private static final int SNAP = 5;
    private static final int LIFT = 6;
    private static final int GATE = 7;
    private static final int COUNT = 8;
    private static final int CHANGE = 9;
    private static final int SWITCH = 10;
    private static final int DELAY = 11;
    private static final int ONCE = 12;
    private static final int SELECT = 13;
    private static final int TIMES = 14;

    private int nodeCount = 0;
    private final int[] kinds = new int[MOST_NODES];
    private final int[] xs = new int[MOST_NODES];
    private final int[] ys = new int[MOST_NODES];
    private final int[] zs = new int[MOST_NODES];

    // A cell never has; an event that has nothing is kept at 0 in now, so that sums may take it as it is.
    private final boolean[] has = new boolean[MOST_NODES];
    private final int[] now = new int[MOST_NODES];
    private final int[] before = new int[MOST_NODES];
    private final int[] timesHad = new int[MOST_NODES];

    // What a SOURCE or a DELAY will have in the next transaction.
    private final boolean[] waiting = new boolean[MOST_NODES];
    private final int[] waitingValue = new int[MOST_NODES];
    private final int[] countSums = new int[MOST_NODES];

    // Every node stands behind its parts here; ties keep the node numbers from being such an order.
    private final int[] order = new int[MOST_NODES];
    private boolean orderIsOld = false;

    private int workLevel = 1;
    private int commits = 0;

    public SignalGraph() {
    }

    public int node(int kind, int x, int y, int z) {
        if (nodeCount >= MOST_NODES) {
            return FULL;
        }
        if (!operandsFit(kind, x, y, z)) {
            return BAD;
        }
        int n = nodeCount;
        kinds[n] = kind;
        xs[n] = x;
        ys[n] = y;
        zs[n] = z;
        forgetPast(n);
        now[n] = firstValue(n);
        nodeCount++;
        orderIsOld = true;
        return n;
    }

    public boolean tie(int h, int e) {
        if (!isOfKind(h, HOLD)) {
            return false;
        }
        if (e != NO_EVENT) {
            if (!isEvent(e) || comesTo(e, h)) {
                return false;
            }
        }
        xs[h] = e;
        orderIsOld = true;
        return true;
    }

    public int retract() {
        if (nodeCount == 0) {
            return BAD;
        }
        nodeCount--;
        untieFrom(nodeCount);
        orderIsOld = true;
        return nodeCount;
    }

    public boolean fire(int s, int value) {
        if (!isOfKind(s, SOURCE)) {
            return false;
        }
        waiting[s] = true;
        waitingValue[s] = value;
        return true;
    }

    public int commit() {
        commits++;
        keepBefore();
        if (workLevel == 0 || orderIsOld) {
            putInOrder();
        }
        for (int i = 0; i < nodeCount; i++) {
            workOut(order[i]);
        }
        prepareNext();
        return tallyEvents();
    }

    public boolean had(int n) {
        return isThere(n) && has[n];
    }

    public int value(int n) {
        return isThere(n) ? now[n] : 0;
    }

    public int times(int n) {
        return isThere(n) ? timesHad[n] : BAD;
    }

    public int sort(int n) {
        if (!isThere(n)) {
            return BAD;
        }
        return isCell(n) ? CELL_SORT : EVENT_SORT;
    }

    public boolean leads(int n, int m) {
        return isThere(n) && isThere(m) && comesTo(n, m);
    }

    public int transactions() {
        return commits;
    }

    // Level 0 finds the order anew in every transaction, level 1 only after the graph has changed.
    public boolean level(int k) {
        if (k < 0 || k > 1) {
            return false;
        }
        workLevel = k;
        return true;
    }

    private boolean isThere(int n) {
        return n >= 0 && n < nodeCount;
    }

    private boolean isOfKind(int n, int kind) {
        return isThere(n) && kinds[n] == kind;
    }

    private boolean isCell(int n) {
        return isThere(n) && isCellKind(kinds[n]);
    }

    private boolean isEvent(int n) {
        return isThere(n) && !isCellKind(kinds[n]);
    }

    private static boolean isCellKind(int kind) {
        return kind == HOLD || kind == LIFT || kind == SELECT || kind == TIMES;
    }

    private boolean operandsFit(int kind, int x, int y, int z) {
        switch (kind) {
            case SOURCE:
                return true;
            case MAP:
            case FILTER:
            case COUNT:
            case DELAY:
            case ONCE:
                return isEvent(x);
            case MERGE:
                return isEvent(x) && isEvent(y);
            case HOLD:
                return x == NO_EVENT || isEvent(x);
            case SNAP:
            case GATE:
                return isEvent(x) && isCell(y);
            case LIFT:
                return isCell(x) && isCell(y);
            case CHANGE:
            case TIMES:
                return isCell(x);
            case SWITCH:
                return isCell(x) && isEvent(y) && isEvent(z);
            case SELECT:
                return isCell(x) && isCell(y) && isCell(z);
            default:
                return false;
        }
    }

    // A retracted node may have left its traces at this number.
    private void forgetPast(int n) {
        has[n] = false;
        timesHad[n] = 0;
        waiting[n] = false;
        waitingValue[n] = 0;
        countSums[n] = 0;
    }

    private int firstValue(int n) {
        if (kinds[n] == HOLD) {
            return ys[n];
        }
        return isCellKind(kinds[n]) ? derivedCell(n) : 0;
    }

    private void untieFrom(int e) {
        for (int h = 0; h < nodeCount; h++) {
            if (kinds[h] == HOLD && xs[h] == e) {
                xs[h] = NO_EVENT;
            }
        }
    }

    // The parts of node n as a set of bits, bit i for node i.
    private int partsOf(int n) {
        int x = xs[n];
        int y = ys[n];
        int z = zs[n];
        switch (kinds[n]) {
            case MAP:
            case FILTER:
            case SNAP:
            case GATE:
            case COUNT:
            case CHANGE:
            case ONCE:
            case TIMES:
                return 1 << x;
            case HOLD:
                return x == NO_EVENT ? 0 : 1 << x;
            case MERGE:
            case LIFT:
                return 1 << x | 1 << y;
            case SWITCH:
                return 1 << y | 1 << z;
            case SELECT:
                return 1 << x | 1 << y | 1 << z;
            default:
                return 0;
        }
    }

    private boolean comesTo(int from, int to) {
        int reached = partsOf(from);
        // Each round goes at least one step further, and no path has more steps than there are nodes.
        for (int round = 0; round < nodeCount; round++) {
            for (int n = 0; n < nodeCount; n++) {
                if ((reached >> n & 1) != 0) {
                    reached |= partsOf(n);
                }
            }
        }
        return (reached >> to & 1) != 0;
    }

    private void putInOrder() {
        int done = 0;
        int placed = 0;
        // Each round places at least one node, for no node comes to itself over parts.
        for (int round = 0; round < nodeCount && placed < nodeCount; round++) {
            for (int n = 0; n < nodeCount; n++) {
                int bit = 1 << n;
                if ((done & bit) == 0 && (partsOf(n) & ~done) == 0) {
                    order[placed] = n;
                    placed++;
                    done |= bit;
                }
            }
        }
        orderIsOld = false;
    }

    private void keepBefore() {
        for (int n = 0; n < nodeCount; n++) {
            before[n] = now[n];
        }
    }

    private void workOut(int n) {
        if (kinds[n] == HOLD) {
            now[n] = heldValue(n);
        } else if (isCellKind(kinds[n])) {
            now[n] = derivedCell(n);
        } else {
            has[n] = eventHas(n);
            now[n] = has[n] ? eventValue(n) : 0;
        }
    }

    private int heldValue(int h) {
        int e = xs[h];
        return e != NO_EVENT && has[e] ? now[e] : before[h];
    }

    private int derivedCell(int n) {
        int x = xs[n];
        int y = ys[n];
        int z = zs[n];
        switch (kinds[n]) {
            case LIFT:
                return now[x] + now[y];
            case SELECT:
                return now[x] != 0 ? now[y] : now[z];
            default:
                return now[x] * y + z;
        }
    }

    private boolean eventHas(int n) {
        int x = xs[n];
        int y = ys[n];
        int z = zs[n];
        switch (kinds[n]) {
            case SOURCE:
            case DELAY:
                return waiting[n];
            case FILTER:
                return has[x] && now[x] >= y;
            case MERGE:
                return has[x] || has[y];
            case GATE:
                return has[x] && before[y] != 0;
            case CHANGE:
                return now[x] != before[x];
            case SWITCH:
                return before[x] != 0 ? has[y] : has[z];
            case ONCE:
                return has[x] && timesHad[n] == 0;
            default:
                return has[x];
        }
    }

    private int eventValue(int n) {
        int x = xs[n];
        int y = ys[n];
        int z = zs[n];
        switch (kinds[n]) {
            case SOURCE:
            case DELAY:
                return waitingValue[n];
            case MAP:
                return now[x] * y + z;
            case MERGE:
                return now[x] + now[y];
            case SNAP:
                return now[x] + before[y];
            case COUNT:
                return countSums[n] + now[x];
            case SWITCH:
                return before[x] != 0 ? now[y] : now[z];
            default:
                return now[x];
        }
    }

    private void prepareNext() {
        for (int n = 0; n < nodeCount; n++) {
            if (kinds[n] == SOURCE) {
                waiting[n] = false;
            } else if (kinds[n] == DELAY) {
                waiting[n] = has[xs[n]];
                waitingValue[n] = now[xs[n]];
            } else if (kinds[n] == COUNT && has[n]) {
                countSums[n] = now[n];
            }
        }
    }

    private int tallyEvents() {
        int having = 0;
        for (int n = 0; n < nodeCount; n++) {
            if (has[n]) {
                timesHad[n]++;
                having++;
            }
        }
        return having;
    }
}
