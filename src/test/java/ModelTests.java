import java.util.Arrays;

// Runs of 512 calls, the same ones every time, on a SignalGraph and on the Model.
public final class ModelTests {
    private static final int RUNS = 3000;
    private static final int CALLS = 512;
    private static final int MOST_WRONG = 20;

    private static long state;
    private static int wrong = 0;
    private static final long[] calls = new long[12];
    private static final long[] taken = new long[12];

    // A fixed row of numbers (splitmix64), so that every run of the tests makes the same calls.
    private static int below(int bound) {
        state += 0x9E3779B97F4A7C15L;
        long mixed = state;
        mixed = (mixed ^ (mixed >>> 30)) * 0xBF58476D1CE4E5B9L;
        mixed = (mixed ^ (mixed >>> 27)) * 0x94D049BB133111EBL;
        mixed ^= mixed >>> 31;
        return (int) ((mixed >>> 1) % bound);
    }

    private static final int[] EDGES = {Integer.MIN_VALUE, Integer.MAX_VALUE, -1, -2, 24, 25, 32, 64, 1 << 16};

    private static int someNode(Model model) {
        if (below(25) == 0) {
            return EDGES[below(EDGES.length)];
        }
        return below(model.nodes.size() + 1);
    }

    // Mostly a node of the wanted sort, so that most calls are not refused.
    private static int someOf(Model model, char sort) {
        for (int tries = 0; tries < 20 && below(30) != 0; tries++) {
            int n = someNode(model);
            if (model.sort(n) == (sort == 'c' ? 2 : 1)) {
                return n;
            }
        }
        return someNode(model);
    }

    private static int someNumber() {
        return below(12) == 0 ? EDGES[below(EDGES.length)] : below(9) - 4;
    }

    private static void compare(int run, int call, String what, int got, int want) {
        if (got != want) {
            wrong++;
            if (wrong <= MOST_WRONG) {
                System.out.println("run " + run + ", call " + call + ": " + what + " answered " + got + ", due is " + want);
            }
        }
    }

    private static int bit(boolean answer) {
        return answer ? 1 : 0;
    }

    private static void oneCall(int run, int call, SignalGraph g, Model model, int which) {
        int got;
        int want;
        String what;
        int n = someNode(model);
        int v = someNumber();
        switch (which) {
            case 0:
                int kind = below(40) == 0 ? EDGES[below(EDGES.length)] : below(16);
                String operands = kind >= 0 && kind <= 14 ? Model.OPERANDS[kind] : "---";
                int[] used = new int[3];
                for (int i = 0; i < 3; i++) {
                    used[i] = operands.charAt(i) == '-' ? someNumber() : someOf(model, operands.charAt(i));
                }
                if (kind == 4 && below(3) == 0) {
                    used[0] = -1;
                }
                what = "node(" + kind + ", " + used[0] + ", " + used[1] + ", " + used[2] + ")";
                got = g.node(kind, used[0], used[1], used[2]);
                want = model.node(kind, used[0], used[1], used[2]);
                break;
            case 1:
                int h = n;
                for (int tries = 0; tries < 10 && (model.at(h) == null || model.at(h).kind != 4); tries++) {
                    h = someNode(model);
                }
                int e = below(8) == 0 ? -1 : someOf(model, 'e');
                what = "tie(" + h + ", " + e + ")";
                got = bit(g.tie(h, e));
                want = bit(model.tie(h, e));
                break;
            case 2:
                what = "retract()";
                got = g.retract();
                want = model.retract();
                break;
            case 3:
                int s = n;
                for (int tries = 0; tries < 10 && (model.at(s) == null || model.at(s).kind != 0); tries++) {
                    s = someNode(model);
                }
                what = "fire(" + s + ", " + v + ")";
                got = bit(g.fire(s, v));
                want = bit(model.fire(s, v));
                break;
            case 4:
                what = "commit()";
                got = g.commit();
                want = model.commit();
                break;
            case 5:
                what = "had(" + n + ")";
                got = bit(g.had(n));
                want = bit(model.had(n));
                break;
            case 6:
                what = "value(" + n + ")";
                got = g.value(n);
                want = model.value(n);
                break;
            case 7:
                what = "times(" + n + ")";
                got = g.times(n);
                want = model.times(n);
                break;
            case 8:
                what = "sort(" + n + ")";
                got = g.sort(n);
                want = model.sort(n);
                break;
            case 9:
                int m = someNode(model);
                what = "leads(" + n + ", " + m + ")";
                got = bit(g.leads(n, m));
                want = bit(model.leads(n, m));
                break;
            case 10:
                what = "transactions()";
                got = g.transactions();
                want = model.transactions;
                break;
            default:
                what = "level(" + v + ")";
                got = bit(g.level(v));
                want = v == 0 || v == 1 ? 1 : 0;
                break;
        }
        compare(run, call, what, got, want);
        calls[which]++;
        taken[which] += want > 0 ? 1 : 0;
    }

    // After a transaction most runs look at every node, for a wrong value may be overwritten unseen.
    private static int lookAtAll(int run, int call, SignalGraph g, Model model) {
        for (int n = 0; n < model.nodes.size(); n++) {
            compare(run, call, "value(" + n + ")", g.value(n), model.value(n));
            compare(run, call, "had(" + n + ")", bit(g.had(n)), bit(model.had(n)));
        }
        return 2 * model.nodes.size();
    }

    private static void run(int run) {
        state = run;
        SignalGraph g = new SignalGraph();
        Model model = new Model();
        boolean looks = run % 3 != 0;
        int retracts = below(4) * 3;
        int call = 0;
        while (call + 48 < CALLS) {
            int roll = below(100);
            int which = model.nodes.size() < 6 && roll < 70 ? 0
                : roll < 22 ? 0 : roll < 34 ? 1 : roll < 34 + retracts ? 2 : roll < 64 ? 3 : roll < 84 ? 4
                : 5 + below(7);
            oneCall(run, call, g, model, which);
            call++;
            if (which == 4 && looks) {
                call += lookAtAll(run, call, g, model);
            }
        }
        while (call < CALLS) {
            oneCall(run, call, g, model, 5 + below(7));
            call++;
        }
        goOn(g);
    }

    // What calls after the 512th answer is free, but none may throw (LANGUAGE.md, rule 7).
    private static void goOn(SignalGraph g) {
        for (int i = 0; i < 100; i++) {
            int n = below(6) == 0 ? EDGES[below(EDGES.length)] : below(24);
            int m = below(6) == 0 ? EDGES[below(EDGES.length)] : below(24);
            g.node(below(15), n, m, below(24));
            g.tie(n, m);
            g.fire(n, m);
            g.commit();
            g.had(n);
            g.value(n);
            g.times(n);
            g.sort(n);
            g.leads(n, m);
            g.transactions();
            g.level(m);
            if (below(3) == 0) {
                g.retract();
            }
        }
    }

    public static void main(String[] args) {
        for (int run = 0; run < RUNS; run++) {
            run(run);
        }
        System.out.println("calls by method: " + Arrays.toString(calls) + ", answered above 0: " + Arrays.toString(taken));
        System.out.println(wrong == 0 ? "all answers are as due" : wrong + " answers are not as due");
        if (wrong != 0) {
            System.exit(1);
        }
    }
}
