// Every row of four steps around a node of each kind, each step ending in a transaction, on a SignalGraph and on the
// Model: together with values fired before and after, the node is made again, and a HOLD below it is tied anew.
public final class StepTests {
    private static final int KINDS = 15;
    private static final int STEPS = 4;
    private static final int ACTIONS = 8;
    private static final int MOST_WRONG = 20;

    // The nodes below the one of each kind: two SOURCEs, a HOLD and a TIMES, which begins with 0.
    private static final int HOLD = 2;
    private static final int MIDDLE = 4;
    // The operands that stand for e, f, then for c, d, g, then for the numbers, in two ways.
    private static final int[][] EVENTS = {{0, 1}, {1, 0}};
    private static final int[][] CELLS = {{3, 2, 3}, {2, 3, 3}};
    private static final int[][] NUMBERS = {{2, 1, 9}, {-1, 0, 9}};

    private static SignalGraph g;
    private static Model model;
    private static StringBuilder made;
    private static int wrong = 0;
    private static long runs = 0;
    private static long having = 0;

    public static void main(String[] args) {
        int rows = 1;
        for (int i = 0; i < STEPS; i++) {
            rows *= ACTIONS;
        }
        for (int way = 0; way < EVENTS.length; way++) {
            for (int kind = 0; kind < KINDS; kind++) {
                for (int row = 0; row < rows; row++) {
                    run(kind, way, row);
                }
            }
        }
        System.out.println(runs + " runs, " + having + " values; "
            + (wrong == 0 ? "all answers are as due" : wrong + " answers are not as due"));
        if (wrong != 0) {
            System.exit(1);
        }
    }

    private static void run(int kind, int way, int row) {
        runs++;
        g = new SignalGraph();
        model = new Model();
        made = new StringBuilder();
        node(0, 0, 0, 0);
        node(0, 0, 0, 0);
        node(4, 0, 1, 0);
        node(14, HOLD, 2, -2);
        makeMiddle(kind, way);
        int left = row;
        for (int step = 0; step < STEPS; step++) {
            act(left % ACTIONS, kind, way);
            left /= ACTIONS;
            made.append("commit() ");
            int due = model.commit();
            having += due;
            same("", g.commit(), due);
            lookAtAll();
        }
        lookAtGraph();
    }

    // The node of that kind, a node that reads it, and a DELAY of the reader.
    private static void makeMiddle(int kind, int way) {
        int[] operands = new int[3];
        int events = 0;
        int cells = 0;
        int numbers = 0;
        for (int i = 0; i < 3; i++) {
            switch (Model.OPERANDS[kind].charAt(i)) {
                case 'e': operands[i] = EVENTS[way][events++]; break;
                case 'c': operands[i] = CELLS[way][cells++]; break;
                default: operands[i] = NUMBERS[way][numbers++]; break;
            }
        }
        node(kind, operands[0], operands[1], operands[2]);
        node(model.sort(MIDDLE) == 2 ? 9 : 8, MIDDLE, 0, 0);
        node(11, MIDDLE + 1, 0, 0);
    }

    private static void act(int action, int kind, int way) {
        switch (action) {
            case 0: break;
            case 1: fire(0, 3); break;
            case 2: fire(0, 0); fire(1, -2); break;
            case 3: fire(1, 4); fire(MIDDLE, 6); break;
            case 4: remake(kind, way); break;
            case 5: tie(HOLD, 1); fire(1, 5); break;
            case 6: tie(HOLD, MIDDLE); fire(0, 2); break;
            default: fire(0, 7); fire(MIDDLE, 8); remake(kind, way); tie(HOLD, MIDDLE + 2); break;
        }
    }

    private static void remake(int kind, int way) {
        while (model.nodes.size() > MIDDLE) {
            made.append("retract() ");
            same("", g.retract(), model.retract());
        }
        makeMiddle(kind, way);
    }

    private static void node(int kind, int x, int y, int z) {
        made.append("node(" + kind + ", " + x + ", " + y + ", " + z + ") ");
        same("", g.node(kind, x, y, z), model.node(kind, x, y, z));
    }

    private static void tie(int h, int e) {
        made.append("tie(" + h + ", " + e + ") ");
        same("", g.tie(h, e) ? 1 : 0, model.tie(h, e) ? 1 : 0);
    }

    private static void fire(int s, int value) {
        made.append("fire(" + s + ", " + value + ") ");
        same("", g.fire(s, value) ? 1 : 0, model.fire(s, value) ? 1 : 0);
    }

    private static void lookAtAll() {
        for (int n = 0; n < model.nodes.size(); n++) {
            same("value(" + n + ")", g.value(n), model.value(n));
            same("had(" + n + ")", g.had(n) ? 1 : 0, model.had(n) ? 1 : 0);
        }
    }

    private static void lookAtGraph() {
        for (int n = 0; n <= model.nodes.size(); n++) {
            same("times(" + n + ")", g.times(n), model.times(n));
            same("sort(" + n + ")", g.sort(n), model.sort(n));
            for (int m = 0; m <= model.nodes.size(); m++) {
                same("leads(" + n + ", " + m + ")", g.leads(n, m) ? 1 : 0, model.leads(n, m) ? 1 : 0);
            }
        }
        same("transactions()", g.transactions(), model.transactions);
    }

    private static void same(String asked, int got, int due) {
        if (got != due && wrong++ < MOST_WRONG) {
            System.out.println(made + asked + " answered " + got + ", due is " + due);
        }
    }
}
