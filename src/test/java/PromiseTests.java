// By hand, for every promise of the document: ordinary inputs, the edges it names, and wrong inputs.
public final class PromiseTests {
    private static final int SOURCE = 0, MAP = 1, FILTER = 2, MERGE = 3, HOLD = 4, SNAP = 5, LIFT = 6, GATE = 7;
    private static final int COUNT = 8, CHANGE = 9, SWITCH = 10, DELAY = 11, ONCE = 12, SELECT = 13, TIMES = 14;
    private static final int[] NOT_THERE = {-1, -2, 24, 25, 31, 32, 64, 1000000, Integer.MIN_VALUE, Integer.MAX_VALUE};

    private static int wrong = 0;

    private static void due(String what, int got, int want) {
        if (got != want) {
            wrong++;
            System.out.println(what + " answered " + got + ", due is " + want);
        }
    }

    private static void due(String what, boolean got, boolean want) {
        due(what, got ? 1 : 0, want ? 1 : 0);
    }

    // What event n has is told by both had and value.
    private static void dueHas(String what, SignalGraph g, int n, int want) {
        due(what + ": had", g.had(n), true);
        due(what + ": value", g.value(n), want);
    }

    private static void dueNone(String what, SignalGraph g, int n) {
        due(what + ": had", g.had(n), false);
        due(what + ": value", g.value(n), 0);
    }

    private static SignalGraph withSources(int count) {
        SignalGraph g = new SignalGraph();
        for (int i = 0; i < count; i++) {
            g.node(SOURCE, 0, 0, 0);
        }
        return g;
    }

    private static int commitWith(SignalGraph g, int source, int value) {
        g.fire(source, value);
        return g.commit();
    }

    public static void main(String[] args) {
        promise1();
        promise2Sorts();
        promise2Full();
        promise2Fresh();
        promise3();
        promise3Parts();
        promise3Order();
        promise4();
        promise4Numbers();
        promise5();
        promise6Map();
        promise6FilterMerge();
        promise6Hold();
        promise6SnapGateSwitch();
        promise6CountOnce();
        promise6Delay();
        promise6Cells();
        promise6Change();
        promise6Wraps();
        promise7and8();
        promise9();
        promise10();
        promise11();
        promise12();
        promise13();
        System.out.println(wrong == 0 ? "all answers are as due" : wrong + " answers are not as due");
        if (wrong != 0) {
            System.exit(1);
        }
    }

    private static void promise1() {
        due("1: BAD", SignalGraph.BAD, -1);
        due("1: FULL", SignalGraph.FULL, -2);
        SignalGraph g = new SignalGraph();
        due("1: transactions", g.transactions(), 0);
        due("1: retract", g.retract(), SignalGraph.BAD);
        due("1: sort", g.sort(0), SignalGraph.BAD);
        due("1: times", g.times(0), SignalGraph.BAD);
        due("1: leads", g.leads(0, 0), false);
        due("1: had", g.had(0), false);
        due("1: value", g.value(0), 0);
        due("1: first number", g.node(SOURCE, 0, 0, 0), 0);
        SignalGraph other = new SignalGraph();
        due("1: objects share nothing", other.sort(0), SignalGraph.BAD);
    }

    // The sort that x, y and z must have, per kind: e for an event, c for a cell, - for a number or nothing.
    private static final String[] OPERANDS = {
        "---", "e--", "e--", "ee-", "e--", "ec-", "cc-", "ec-", "e--", "c--", "cee", "e--", "e--", "ccc", "c--"};

    private static void promise2Sorts() {
        int event = 0;
        int cell = 1;
        for (int kind = 0; kind <= 14; kind++) {
            int[] right = new int[3];
            for (int i = 0; i < 3; i++) {
                char sort = OPERANDS[kind].charAt(i);
                right[i] = sort == 'e' ? event : sort == 'c' ? cell : Integer.MAX_VALUE;
            }
            due("2: kind " + kind, withBoth().node(kind, right[0], right[1], right[2]), 2);
            for (int i = 0; i < 3; i++) {
                if (OPERANDS[kind].charAt(i) == '-') {
                    continue;
                }
                int[] used = right.clone();
                used[i] = right[i] == event ? cell : event;
                due("2: kind " + kind + " wrong sort at " + i, withBoth().node(kind, used[0], used[1], used[2]), -1);
                used[i] = 2;
                due("2: kind " + kind + " of itself at " + i, withBoth().node(kind, used[0], used[1], used[2]), -1);
                for (int gone : NOT_THERE) {
                    used[i] = gone;
                    int want = kind == HOLD && gone == -1 ? 2 : -1;
                    due("2: kind " + kind + " of " + gone + " at " + i,
                        withBoth().node(kind, used[0], used[1], used[2]), want);
                }
            }
        }
        for (int kind : new int[] {-1, 15, 16, 30, -14, Integer.MIN_VALUE, Integer.MAX_VALUE}) {
            SignalGraph g = withBoth();
            due("2: kind " + kind, g.node(kind, 0, 0, 0), SignalGraph.BAD);
            due("2: nothing made", g.sort(2), SignalGraph.BAD);
        }
    }

    // Node 0 is an event, node 1 a cell.
    private static SignalGraph withBoth() {
        SignalGraph g = withSources(1);
        g.node(HOLD, -1, 0, 0);
        return g;
    }

    private static void promise2Full() {
        SignalGraph g = new SignalGraph();
        for (int i = 0; i < 24; i++) {
            due("2: number " + i, g.node(SOURCE, 0, 0, 0), i);
        }
        due("2: full", g.node(SOURCE, 0, 0, 0), SignalGraph.FULL);
        due("2: full comes before a bad kind", g.node(15, 0, 0, 0), SignalGraph.FULL);
        due("2: full comes before a bad operand", g.node(MAP, 99, 0, 0), SignalGraph.FULL);
        due("2: all 24 work", commitWith(g, 23, 5), 1);
        dueHas("2: the last of 24", g, 23, 5);
        due("2: retract makes room", g.retract(), 23);
        due("2: bad kind with room", g.node(15, 0, 0, 0), SignalGraph.BAD);
        due("2: room again", g.node(MAP, 0, 1, 1), 23);
    }

    private static void promise2Fresh() {
        SignalGraph g = withSources(1);
        commitWith(g, 0, 6);
        g.node(MAP, 0, 1, 0);
        dueNone("2: a node made later", g, 1);
        due("2: times of a node made later", g.times(1), 0);
        g.node(HOLD, 0, 3, 0);
        due("2: a HOLD begins with its number", g.value(2), 3);
        g.node(TIMES, 2, 5, -1);
        due("2: a cell has its value at once", g.value(3), 14);
        g.node(CHANGE, 3, 0, 0);
        due("2: what is new has not changed", g.commit(), 0);
    }

    private static void promise3() {
        SignalGraph g = withSources(2);
        g.node(HOLD, 0, 1, 0);
        g.node(LIFT, 2, 2, 0);
        g.node(CHANGE, 3, 0, 0);
        g.node(MAP, 4, 1, 0);
        due("3: over parts from MAP", g.tie(2, 5), false);
        due("3: over parts from CHANGE", g.tie(2, 4), false);
        due("3: a cell is no event", g.tie(2, 3), false);
        due("3: the HOLD itself is no event", g.tie(2, 2), false);
        due("3: a LIFT is no HOLD", g.tie(3, 0), false);
        due("3: a SOURCE is no HOLD", g.tie(0, 1), false);
        due("3: no HOLD and no event", g.tie(3, -1), false);
        for (int gone : NOT_THERE) {
            due("3: HOLD " + gone, g.tie(gone, 0), false);
            due("3: event " + gone, g.tie(2, gone), gone == -1);
            g.tie(2, 0);
        }
        due("3: node 6 is not there", g.tie(2, 6), false);
        commitWith(g, 0, 8);
        due("3: a refused tie changes nothing", g.value(2), 8);
        due("3: tie", g.tie(2, 1), true);
        due("3: a tie does not change the value", g.value(2), 8);
        due("3: the event before is left", commitWith(g, 0, 9), 1);
        due("3: the value stays", g.value(2), 8);
        due("3: the new event counts", commitWith(g, 1, 4), 3);
        due("3: the new value", g.value(2), 4);
        due("3: the same tie again", g.tie(2, 1), true);
        due("3: untie", g.tie(2, -1), true);
        commitWith(g, 1, 7);
        due("3: no event", g.value(2), 4);
        due("3: tie with what has a value now", g.tie(2, 1), true);
        g.commit();
        due("3: only from now on", g.value(2), 4);
    }

    private static void promise3Parts() {
        int hold = 1;
        int[][] throughCell = {{SNAP, 0, hold, 0}, {GATE, 0, hold, 0}, {SWITCH, hold, 0, 0}};
        for (int[] made : throughCell) {
            SignalGraph g = withBoth();
            g.node(made[0], made[1], made[2], made[3]);
            due("3: the cell of kind " + made[0] + " is no part", g.tie(hold, 2), true);
            due("3: now the HOLD leads there", g.leads(hold, 2), true);
        }
        int change = 2;
        int delay = 3;
        SignalGraph behindDelay = withBoth();
        behindDelay.node(CHANGE, hold, 0, 0);
        behindDelay.node(DELAY, change, 0, 0);
        due("3: DELAY has no parts", behindDelay.tie(hold, delay), true);
        int[][] throughEvent = {{MAP, change, 1, 0}, {FILTER, change, 0, 0}, {MERGE, change, 0, 0},
            {MERGE, 0, change, 0}, {SNAP, change, hold, 0}, {GATE, change, hold, 0}, {COUNT, change, 0, 0},
            {SWITCH, hold, change, 0}, {SWITCH, hold, 0, change}, {ONCE, change, 0, 0}};
        for (int[] made : throughEvent) {
            SignalGraph g = withBoth();
            g.node(CHANGE, hold, 0, 0);
            g.node(made[0], made[1], made[2], made[3]);
            due("3: the event of kind " + made[0] + " is a part", g.tie(hold, 3), false);
        }
        int otherHold = 2;
        int[][] cells = {{LIFT, hold, otherHold, 0}, {LIFT, otherHold, hold, 0}, {TIMES, hold, 1, 0},
            {SELECT, hold, otherHold, otherHold}, {SELECT, otherHold, hold, otherHold},
            {SELECT, otherHold, otherHold, hold}};
        for (int[] made : cells) {
            SignalGraph g = withBoth();
            g.node(HOLD, -1, 0, 0);
            g.node(made[0], made[1], made[2], made[3]);
            g.node(CHANGE, 3, 0, 0);
            due("3: the cell of kind " + made[0] + " is a part", g.tie(hold, 4), false);
        }
    }

    // Two HOLDs, each with a CHANGE: a ring over both is refused, and opens again when one is untied.
    private static void promise3Order() {
        for (int level = 0; level <= 1; level++) {
            SignalGraph g = withSources(1);
            g.level(level);
            g.node(HOLD, -1, 0, 0);
            g.node(CHANGE, 1, 0, 0);
            g.node(HOLD, -1, 0, 0);
            g.node(CHANGE, 3, 0, 0);
            due("3: first HOLD from the second", g.tie(1, 4), true);
            due("3: a ring over ties", g.tie(3, 2), false);
            due("3: second HOLD from the source", g.tie(3, 0), true);
            due("3: later nodes first", commitWith(g, 0, 5), 3);
            due("3: in the same transaction", g.value(1), 5);
            dueHas("3: and its change", g, 2, 5);
            due("3: open the ring", g.tie(1, -1), true);
            due("3: the other way round", g.tie(3, 2), true);
            due("3: first HOLD from the source", g.tie(1, 0), true);
            due("3: earlier nodes first", commitWith(g, 0, 6), 3);
            due("3: through to the end", g.value(3), 6);
        }
    }

    private static void promise4() {
        SignalGraph g = withSources(2);
        g.node(HOLD, 1, 3, 0);
        g.node(HOLD, 0, 4, 0);
        g.node(MAP, 0, 10, 0);
        due("4: tie to the last", g.tie(2, 4), true);
        commitWith(g, 0, 1);
        due("4: tied", g.value(2), 10);
        due("4: retract the event", g.retract(), 4);
        due("4: the value stays", g.value(2), 10);
        due("4: gone", g.sort(4), SignalGraph.BAD);
        due("4: leads to nothing", g.leads(2, 0), false);
        due("4: a new node with its number", g.node(MAP, 0, 100, 0), 4);
        due("4: leads not to the new one", g.leads(2, 4), false);
        commitWith(g, 0, 2);
        due("4: the HOLD has no event", g.value(2), 10);
        due("4: another HOLD keeps its event", g.value(3), 2);
        commitWith(g, 1, 8);
        due("4: nor the one it had before its tie", g.value(2), 10);
        for (int left = 4; left >= 0; left--) {
            due("4: left", g.retract(), left);
        }
        due("4: none left", g.retract(), SignalGraph.BAD);
        due("4: again", g.retract(), SignalGraph.BAD);
        due("4: transactions stay", g.transactions(), 3);
        due("4: from 0 again", g.node(SOURCE, 0, 0, 0), 0);
        promise4Order();
    }

    // The order of the nodes changes with each retraction: first node 2 goes before 0, then node 0 stands alone.
    private static void promise4Order() {
        SignalGraph g = new SignalGraph();
        g.node(HOLD, -1, 7, 0);
        g.node(CHANGE, 0, 0, 0);
        g.node(SOURCE, 0, 0, 0);
        g.tie(0, 2);
        due("4: three nodes", commitWith(g, 2, 1), 2);
        dueHas("4: the CHANGE over the tie", g, 1, 1);
        g.retract();
        due("4: two nodes", g.commit(), 0);
        dueNone("4: the CHANGE without the tie", g, 1);
        g.retract();
        g.retract();
        g.node(SOURCE, 0, 0, 0);
        due("4: one node", commitWith(g, 0, 3), 1);
        dueHas("4: the node alone", g, 0, 3);
    }

    // A number that looks like the retracted node is no event: only HOLDs lose theirs.
    private static void promise4Numbers() {
        SignalGraph g = withSources(1);
        g.node(FILTER, 0, 4, 0);
        g.node(MAP, 0, 3, 3);
        g.node(HOLD, 0, 4, 0);
        g.node(SOURCE, 0, 0, 0);
        g.retract();
        commitWith(g, 0, 3);
        dueNone("4: a FILTER's number", g, 1);
        dueHas("4: a MAP's numbers", g, 2, 12);
        due("4: a HOLD's event", g.value(3), 3);
        g.retract();
        commitWith(g, 0, 4);
        dueHas("4: a FILTER's number is as it was", g, 1, 4);
        dueHas("4: a MAP's numbers are as they were", g, 2, 15);

        SignalGraph fresh = withSources(1);
        fresh.node(SOURCE, 0, 0, 0);
        fresh.fire(1, 9);
        fresh.retract();
        due("4: fire into what is gone", fresh.fire(1, 9), false);
        fresh.node(SOURCE, 0, 0, 0);
        due("4: what was fired is gone", fresh.commit(), 0);
        commitWith(fresh, 1, 9);
        fresh.retract();
        fresh.node(COUNT, 0, 0, 0);
        dueNone("4: a new node has nothing", fresh, 1);
        due("4: times begin anew", fresh.times(1), 0);
        commitWith(fresh, 0, 5);
        fresh.retract();
        fresh.node(COUNT, 0, 0, 0);
        commitWith(fresh, 0, 2);
        dueHas("4: sums begin anew", fresh, 1, 2);
        fresh.retract();
        for (int i = 0; i < 2; i++) {
            fresh.node(ONCE, 0, 0, 0);
            commitWith(fresh, 0, 6);
            dueHas("4: ONCE begins anew", fresh, 1, 6);
            fresh.retract();
        }
        fresh.node(DELAY, 0, 0, 0);
        commitWith(fresh, 0, 7);
        fresh.retract();
        fresh.node(DELAY, 0, 0, 0);
        fresh.commit();
        dueNone("4: DELAY begins anew", fresh, 1);
    }

    private static void promise5() {
        SignalGraph g = withSources(2);
        g.node(MAP, 0, 1, 0);
        g.node(HOLD, 0, 0, 0);
        due("5: fire", g.fire(0, 3), true);
        dueNone("5: not before the transaction", g, 0);
        due("5: fire again", g.fire(0, 4), true);
        due("5: into an event that is no source", g.fire(2, 1), false);
        due("5: into a cell", g.fire(3, 1), false);
        due("5: into what is not there yet", g.fire(4, 1), false);
        for (int gone : NOT_THERE) {
            due("5: into " + gone, g.fire(gone, 1), false);
        }
        due("5: commit", g.commit(), 2);
        dueHas("5: the last one", g, 0, 4);
        dueNone("5: the other source", g, 1);
        due("5: used up", g.commit(), 0);
        dueNone("5: nothing fired", g, 0);
        due("5: 0 is a value", g.fire(0, 0), true);
        due("5: 0 counts", g.commit(), 2);
        dueHas("5: value 0", g, 0, 0);
        commitWith(g, 1, Integer.MIN_VALUE);
        dueHas("5: the least int", g, 1, Integer.MIN_VALUE);
    }

    private static void promise6Map() {
        SignalGraph g = withSources(1);
        due("6: nothing fired", g.commit(), 0);
        g.node(MAP, 0, 3, -4);
        g.node(MAP, 1, -2, 0);
        g.node(MAP, 0, 0, 0);
        due("6: MAP", commitWith(g, 0, 5), 4);
        dueHas("6: MAP", g, 1, 11);
        dueHas("6: MAP of MAP", g, 2, -22);
        dueHas("6: MAP to 0", g, 3, 0);
        due("6: MAP of nothing", g.commit(), 0);
        dueNone("6: MAP of nothing", g, 1);
    }

    private static void promise6FilterMerge() {
        SignalGraph g = withSources(2);
        g.node(FILTER, 0, 5, 0);
        g.node(FILTER, 1, -1, 0);
        g.node(MERGE, 2, 3, 0);
        g.node(MERGE, 0, 0, 0);
        due("6: FILTER below", commitWith(g, 0, 4), 2);
        dueNone("6: FILTER below", g, 2);
        dueNone("6: MERGE of nothing", g, 4);
        dueHas("6: MERGE of one with itself", g, 5, 8);
        due("6: FILTER at least", commitWith(g, 0, 5), 4);
        dueHas("6: FILTER at least", g, 2, 5);
        dueHas("6: MERGE of the first", g, 4, 5);
        commitWith(g, 1, 0);
        dueNone("6: FILTER of nothing", g, 2);
        dueHas("6: FILTER of 0", g, 3, 0);
        dueHas("6: MERGE of the second", g, 4, 0);
        g.fire(1, 8);
        due("6: both", commitWith(g, 0, 7), 6);
        dueHas("6: MERGE of both", g, 4, 15);
        commitWith(g, 1, -2);
        dueNone("6: FILTER below a negative number", g, 3);
        g.node(FILTER, 0, Integer.MIN_VALUE, 0);
        commitWith(g, 0, Integer.MIN_VALUE);
        dueHas("6: FILTER at the least int", g, 6, Integer.MIN_VALUE);
        g.node(FILTER, 0, 0, 0);
        due("6: FILTER of nothing, at least 0", g.commit(), 0);
    }

    private static void promise6Hold() {
        SignalGraph g = withSources(1);
        g.node(HOLD, 0, 5, 0);
        g.node(HOLD, -1, 6, 0);
        due("6: HOLD at first", g.value(1), 5);
        g.commit();
        due("6: HOLD without a value", g.value(1), 5);
        g.fire(0, 0);
        due("6: HOLD is not there before the transaction", g.value(1), 5);
        g.commit();
        due("6: HOLD of 0", g.value(1), 0);
        g.commit();
        due("6: HOLD stays", g.value(1), 0);
        due("6: HOLD without an event", g.value(2), 6);
    }

    private static void promise6SnapGateSwitch() {
        SignalGraph g = withSources(2);
        g.node(HOLD, 0, 0, 0);
        g.node(TIMES, 2, 2, 0);
        g.node(SNAP, 0, 3, 0);
        g.node(GATE, 0, 3, 0);
        g.node(SWITCH, 3, 0, 1);
        due("6: before is 0", commitWith(g, 0, 7), 2);
        dueHas("6: SNAP takes before", g, 4, 7);
        dueNone("6: GATE takes before", g, 5);
        dueNone("6: SWITCH takes before", g, 6);
        due("6: before is 14", commitWith(g, 0, 0), 4);
        dueHas("6: SNAP adds before", g, 4, 14);
        dueHas("6: GATE opens", g, 5, 0);
        dueHas("6: SWITCH to the first", g, 6, 0);
        due("6: before is 0 again", commitWith(g, 1, 3), 2);
        dueNone("6: SNAP of nothing", g, 4);
        dueHas("6: SWITCH to the second", g, 6, 3);
        commitWith(g, 0, -1);
        due("6: before is -2", commitWith(g, 1, 3), 1);
        dueNone("6: GATE of nothing", g, 5);
        dueNone("6: SWITCH to what has nothing", g, 6);
        g.fire(1, 50);
        commitWith(g, 0, 40);
        dueHas("6: SWITCH takes one", g, 6, 40);
    }

    private static void promise6CountOnce() {
        SignalGraph g = withSources(1);
        commitWith(g, 0, 100);
        g.node(COUNT, 0, 0, 0);
        g.node(ONCE, 0, 0, 0);
        g.commit();
        dueNone("6: COUNT of nothing", g, 1);
        dueNone("6: ONCE of nothing", g, 2);
        due("6: first", commitWith(g, 0, 0), 3);
        dueHas("6: COUNT from when it was made", g, 1, 0);
        dueHas("6: ONCE of 0", g, 2, 0);
        due("6: second", commitWith(g, 0, 5), 2);
        dueHas("6: COUNT sums", g, 1, 5);
        dueNone("6: ONCE only once", g, 2);
        g.commit();
        dueNone("6: COUNT rests", g, 1);
        commitWith(g, 0, -8);
        dueHas("6: COUNT goes on", g, 1, -3);
        g.fire(0, 2);
        g.node(COUNT, 0, 0, 0);
        g.node(ONCE, 0, 0, 0);
        g.commit();
        dueHas("6: COUNT takes what was fired before it was made", g, 3, 2);
        dueHas("6: ONCE too", g, 4, 2);
        dueHas("6: the older COUNT", g, 1, -1);
    }

    private static void promise6Delay() {
        SignalGraph g = withSources(1);
        commitWith(g, 0, 4);
        g.node(DELAY, 0, 0, 0);
        g.node(DELAY, 1, 0, 0);
        due("6: DELAY was not there then", g.commit(), 0);
        due("6: DELAY waits", commitWith(g, 0, 0), 1);
        due("6: DELAY", commitWith(g, 0, 9), 2);
        dueHas("6: DELAY of 0", g, 1, 0);
        due("6: DELAY of DELAY", g.commit(), 2);
        dueHas("6: DELAY again", g, 1, 9);
        dueHas("6: DELAY of DELAY", g, 2, 0);
        due("6: the second one", g.commit(), 1);
        dueHas("6: the second value", g, 2, 9);
        due("6: all through", g.commit(), 0);

        SignalGraph ring = withSources(1);
        ring.node(HOLD, -1, 1, 0);
        ring.node(CHANGE, 1, 0, 0);
        ring.node(DELAY, 2, 0, 0);
        ring.node(MAP, 3, 2, 0);
        ring.node(MERGE, 0, 4, 0);
        ring.tie(1, 5);
        due("6: into the ring", commitWith(ring, 0, 3), 3);
        for (int want = 6; want < 100; want *= 2) {
            due("6: round the ring", ring.commit(), 4);
            due("6: the HOLD in the ring", ring.value(1), want);
        }
    }

    private static void promise6Cells() {
        SignalGraph g = withSources(2);
        g.node(HOLD, 0, 0, 0);
        g.node(HOLD, 1, 20, 0);
        g.node(LIFT, 2, 3, 0);
        g.node(SELECT, 2, 3, 4);
        g.node(TIMES, 4, -3, 1);
        g.node(SNAP, 0, 4, 0);
        g.node(SNAP, 0, 5, 0);
        g.node(SNAP, 0, 6, 0);
        due("6: LIFT at first", g.value(4), 20);
        due("6: SELECT at first", g.value(5), 20);
        due("6: TIMES at first", g.value(6), -59);
        g.fire(1, 7);
        commitWith(g, 0, 1);
        due("6: LIFT after", g.value(4), 8);
        due("6: SELECT after, not 0", g.value(5), 7);
        due("6: TIMES after", g.value(6), -23);
        dueHas("6: LIFT before", g, 7, 21);
        dueHas("6: SELECT before", g, 8, 21);
        dueHas("6: TIMES before", g, 9, -58);
        commitWith(g, 0, -2);
        due("6: SELECT, negative", g.value(5), 7);
        g.fire(1, 30);
        commitWith(g, 0, 0);
        due("6: SELECT, 0", g.value(5), 30);
        dueHas("6: SELECT before is that after the last", g, 8, 7);

        SignalGraph select = withSources(1);
        select.node(HOLD, 0, 0, 0);
        select.node(HOLD, -1, 11, 0);
        select.node(HOLD, -1, 22, 0);
        select.node(SELECT, 1, 2, 3);
        due("6: SELECT the second", select.value(4), 22);
        commitWith(select, 0, 1);
        due("6: SELECT the first", select.value(4), 11);
        commitWith(select, 0, 0);
        due("6: SELECT the second again", select.value(4), 22);
    }

    private static void promise6Change() {
        SignalGraph g = withSources(2);
        g.node(HOLD, 0, 0, 0);
        g.node(HOLD, 1, 0, 0);
        g.node(LIFT, 2, 3, 0);
        g.node(CHANGE, 4, 0, 0);
        g.node(CHANGE, 2, 0, 0);
        g.fire(1, -5);
        due("6: two changes that cancel", commitWith(g, 0, 5), 3);
        dueNone("6: no CHANGE", g, 5);
        dueHas("6: CHANGE", g, 6, 5);
        commitWith(g, 0, 5);
        dueNone("6: the same value is no CHANGE", g, 6);
        due("6: CHANGE to 0", commitWith(g, 0, 0), 3);
        dueHas("6: CHANGE to 0", g, 6, 0);
        due("6: no change", g.commit(), 0);
    }

    private static void promise6Wraps() {
        SignalGraph g = withSources(2);
        int max = Integer.MAX_VALUE;
        g.node(MAP, 0, 2, 1);
        g.node(MERGE, 0, 1, 0);
        g.node(COUNT, 0, 0, 0);
        g.node(HOLD, 0, max, 0);
        g.node(LIFT, 5, 5, 0);
        g.node(TIMES, 5, max, max);
        g.node(SNAP, 0, 5, 0);
        due("6: LIFT wraps", g.value(6), -2);
        due("6: TIMES wraps", g.value(7), Integer.MIN_VALUE);
        g.fire(1, 1);
        commitWith(g, 0, max);
        dueHas("6: MAP wraps", g, 2, -1);
        dueHas("6: MERGE wraps", g, 3, Integer.MIN_VALUE);
        dueHas("6: SNAP wraps", g, 8, -2);
        commitWith(g, 0, max);
        dueHas("6: COUNT wraps", g, 4, -2);
    }

    private static void promise7and8() {
        SignalGraph g = withSources(1);
        g.node(HOLD, 0, 2, 0);
        commitWith(g, 0, 8);
        dueHas("7, 8: an event", g, 0, 8);
        due("7: false for a cell", g.had(1), false);
        due("8: a cell", g.value(1), 8);
        g.fire(0, 9);
        dueHas("7, 8: the latest transaction", g, 0, 8);
        due("8: a cell now", g.value(1), 8);
        dueNone("7, 8: node 2 is not there", g, 2);
        for (int gone : NOT_THERE) {
            dueNone("7, 8: node " + gone, g, gone);
        }
        g.commit();
        g.commit();
        dueNone("7, 8: nothing in the latest", g, 0);
        due("8: a cell keeps", g.value(1), 9);
        g.retract();
        commitWith(g, 0, 5);
        g.retract();
        dueNone("7, 8: a retracted event", g, 0);
        dueNone("7, 8: a retracted cell", g, 1);
    }

    private static void promise9() {
        SignalGraph g = withSources(1);
        g.node(HOLD, 0, 0, 0);
        g.node(FILTER, 0, 3, 0);
        for (int v = 0; v < 5; v++) {
            g.fire(0, 50);
            commitWith(g, 0, v);
            g.commit();
        }
        due("9: a source", g.times(0), 5);
        due("9: a cell", g.times(1), 0);
        due("9: a filter", g.times(2), 2);
        due("9: node 3", g.times(3), SignalGraph.BAD);
        for (int gone : NOT_THERE) {
            due("9: node " + gone, g.times(gone), SignalGraph.BAD);
        }
        g.fire(0, 4);
        due("9: not before the transaction", g.times(0), 5);
        g.retract();
        due("9: a retracted node", g.times(2), SignalGraph.BAD);
    }

    private static void promise10() {
        int[] sorts = {1, 1, 1, 1, 2, 1, 2, 1, 1, 1, 1, 1, 1, 2, 2};
        for (int kind = 0; kind <= 14; kind++) {
            SignalGraph g = withBoth();
            String operands = OPERANDS[kind];
            int n = g.node(kind, operands.charAt(0) == 'c' ? 1 : 0, operands.charAt(1) == 'c' ? 1 : 0,
                operands.charAt(2) == 'c' ? 1 : 0);
            due("10: kind " + kind, g.sort(n), sorts[kind]);
            due("10: node 3", g.sort(3), SignalGraph.BAD);
        }
        SignalGraph g = withBoth();
        for (int gone : NOT_THERE) {
            due("10: node " + gone, g.sort(gone), SignalGraph.BAD);
        }
        g.retract();
        due("10: a retracted node", g.sort(1), SignalGraph.BAD);
    }

    private static void promise11() {
        // Node 4's kind and operands; then a p for each of the events 0 and 1 and the cells 2 and 3 that is a part.
        Object[][] rows = {
            {SOURCE, 0, 0, 0, "----"}, {MAP, 1, 0, 2, "-p--"}, {FILTER, 1, 0, 0, "-p--"}, {MERGE, 0, 1, 2, "pp--"},
            {HOLD, 1, 0, 0, "-p--"}, {HOLD, -1, 0, 0, "----"}, {SNAP, 0, 3, 1, "p---"}, {LIFT, 2, 3, 0, "--pp"},
            {GATE, 1, 2, 0, "-p--"}, {COUNT, 1, 0, 0, "-p--"}, {CHANGE, 3, 0, 0, "---p"}, {SWITCH, 2, 0, 1, "pp--"},
            {DELAY, 0, 1, 2, "----"}, {ONCE, 1, 0, 0, "-p--"}, {SELECT, 2, 3, 3, "--pp"}, {SELECT, 3, 3, 2, "--pp"},
            {SELECT, 3, 2, 3, "--pp"}, {TIMES, 3, 2, 0, "---p"}};
        for (Object[] row : rows) {
            SignalGraph g = withSources(2);
            g.node(HOLD, -1, 0, 0);
            g.node(HOLD, -1, 0, 0);
            int n = g.node((Integer) row[0], (Integer) row[1], (Integer) row[2], (Integer) row[3]);
            for (int m = 0; m < 4; m++) {
                due("11: kind " + row[0] + " to " + m, g.leads(n, m), ((String) row[4]).charAt(m) == 'p');
                due("11: kind " + row[0] + " back from " + m, g.leads(m, n), false);
            }
            due("11: kind " + row[0] + " to itself", g.leads(n, n), false);
        }
        SignalGraph chain = withSources(1);
        for (int i = 0; i < 23; i++) {
            chain.node(i % 2 == 0 ? HOLD : CHANGE, i, 0, 0);
        }
        due("11: over the longest chain", chain.leads(23, 0), true);
        due("11: not back", chain.leads(0, 23), false);
        for (int gone : NOT_THERE) {
            due("11: from " + gone, chain.leads(gone, 0), false);
            due("11: to " + gone, chain.leads(23, gone), false);
        }
        chain.retract();
        due("11: from a retracted node", chain.leads(23, 0), false);
        longTies();
    }

    // Every HOLD is tied to the CHANGE of the next one, so that paths and values go against the numbers.
    private static void longTies() {
        for (int level = 0; level <= 1; level++) {
            SignalGraph g = new SignalGraph();
            g.level(level);
            for (int i = 0; i < 11; i++) {
                g.node(HOLD, -1, 0, 0);
                g.node(CHANGE, 2 * i, 0, 0);
            }
            int source = g.node(SOURCE, 0, 0, 0);
            for (int i = 0; i < 11; i++) {
                due("3: tie " + i, g.tie(2 * i, i < 10 ? 2 * i + 3 : source), true);
            }
            due("11: over ties", g.leads(0, source), true);
            due("11: over ties from a CHANGE", g.leads(1, 20), true);
            due("11: not back over ties", g.leads(20, 1), false);
            due("3: a long ring", g.tie(20, 1), false);
            due("6: against the numbers", commitWith(g, source, 3), 12);
            dueHas("6: the far end", g, 1, 3);
            g.tie(0, -1);
            due("11: untied", g.leads(1, source), false);
            due("3: no ring any more", g.tie(20, 1), true);
        }
    }

    private static void promise12() {
        SignalGraph g = withSources(1);
        due("12: none", g.transactions(), 0);
        g.fire(0, 1);
        due("12: fire is none", g.transactions(), 0);
        for (int i = 1; i <= 5; i++) {
            g.commit();
            due("12: one more", g.transactions(), i);
        }
        g.retract();
        g.node(15, 0, 0, 0);
        g.level(0);
        due("12: only commits count", g.transactions(), 5);
        g.commit();
        due("12: without nodes too", g.transactions(), 6);
    }

    private static void promise13() {
        SignalGraph g = withSources(1);
        g.node(COUNT, 0, 0, 0);
        g.node(HOLD, 1, 0, 0);
        int sum = 0;
        for (int k : new int[] {0, 1, 1, 0, 0}) {
            due("13: level " + k, g.level(k), true);
            sum += 2;
            due("13: commit at " + k, commitWith(g, 0, 2), 2);
            due("13: value at " + k, g.value(2), sum);
        }
        for (int k : new int[] {-1, 2, 3, -2, 256, Integer.MIN_VALUE, Integer.MAX_VALUE}) {
            due("13: level " + k, g.level(k), false);
            sum += 2;
            due("13: commit after a refused level", commitWith(g, 0, 2), 2);
            due("13: value after a refused level", g.value(2), sum);
        }
        due("13: transactions", g.transactions(), 12);
    }
}
