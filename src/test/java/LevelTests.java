import java.util.ArrayList;
import java.util.Arrays;
import java.util.List;

// Promise 13, "It shows in no answer": the same calls on several objects, which differ only in the levels that are
// taken between the calls, have the same answers.
public final class LevelTests {
    private static final int RUNS = 3000;
    // With a level before each call a run stays within 512 calls.
    private static final int CALLS = 256;
    private static final int WAYS = 8;
    private static final String[] OPERANDS = {
        "---", "e--", "e--", "ee-", "e--", "ec-", "cc-", "ec-", "e--", "c--", "cee", "e--", "e--", "ccc", "c--"};

    private static long state;
    private static int wrong = 0;
    private static final long[] above0 = new long[11];

    // The kinds of the nodes that are there, so that most calls are not refused.
    private static final List<Integer> kinds = new ArrayList<>();

    // A fixed row of numbers (splitmix64), so that every run of the tests makes the same calls.
    private static int below(int bound) {
        state += 0x9E3779B97F4A7C15L;
        long mixed = state;
        mixed = (mixed ^ (mixed >>> 30)) * 0xBF58476D1CE4E5B9L;
        mixed = (mixed ^ (mixed >>> 27)) * 0x94D049BB133111EBL;
        mixed ^= mixed >>> 31;
        return (int) ((mixed >>> 1) % bound);
    }

    private static void takeLevel(SignalGraph g, int way, int call) {
        switch (way) {
            case 1: g.level(0); break;
            case 2: g.level(1); break;
            case 3: g.level(call % 2); break;
            case 4: g.level(call % 3 - 1); break;
            case 5: g.level(call % 7 == 0 ? 0 : call % 7 == 3 ? 1 : 2); break;
            default: g.level((call * 37 + way) % 11 / 5); break;
        }
    }

    private static char sortOf(int kind) {
        return kind == 4 || kind == 6 || kind == 13 || kind == 14 ? 'c' : 'e';
    }

    // A node of that sort, or if sort is - of that kind; any number if none is found.
    private static int someNode(char sort, int kind) {
        for (int tries = 0; tries < 30 && !kinds.isEmpty(); tries++) {
            int n = below(kinds.size());
            if (sort == '-' ? kinds.get(n) == kind : sortOf(kinds.get(n)) == sort) {
                return n;
            }
        }
        return below(26) - 1;
    }

    private static int[] someCall() {
        int roll = below(100);
        int method = roll < 20 ? 0 : roll < 40 ? 1 : roll < 42 ? 2 : roll < 60 ? 3 : roll < 80 ? 4 : 5 + below(6);
        int[] call = {method, below(26) - 1, below(26) - 1, 0, 0};
        if (method == 0) {
            call[1] = below(3) == 0 ? 4 : below(3) == 0 ? 9 : below(15);
            for (int i = 0; i < 3; i++) {
                char sort = OPERANDS[call[1]].charAt(i);
                call[2 + i] = sort == '-' ? below(7) - 3 : someNode(sort, 0);
            }
        } else if (method == 1) {
            call[1] = someNode('-', 4);
            call[2] = someNode('e', 0);
        } else if (method == 3) {
            call[1] = someNode('-', 0);
        }
        return call;
    }

    private static void keepKinds(int[] call, int answer) {
        if (call[0] == 0 && answer >= 0) {
            kinds.add(call[1]);
        } else if (call[0] == 2 && answer >= 0) {
            kinds.remove(kinds.size() - 1);
        }
    }

    private static int answer(SignalGraph g, int[] call) {
        int n = call[1];
        switch (call[0]) {
            case 0: return g.node(n, call[2], call[3], call[4]);
            case 1: return g.tie(n, call[2]) ? 1 : 0;
            case 2: return g.retract();
            case 3: return g.fire(n, call[2]) ? 1 : 0;
            case 4: return g.commit();
            case 5: return g.had(n) ? 1 : 0;
            case 6: return g.value(n);
            case 7: return g.times(n);
            case 8: return g.sort(n);
            case 9: return g.leads(n, call[2]) ? 1 : 0;
            default: return g.transactions();
        }
    }

    private static void run(int run) {
        state = run;
        kinds.clear();
        SignalGraph[] graphs = new SignalGraph[WAYS];
        for (int way = 0; way < WAYS; way++) {
            graphs[way] = new SignalGraph();
        }
        for (int i = 0; i < CALLS; i++) {
            int[] call = someCall();
            int due = answer(graphs[0], call);
            keepKinds(call, due);
            above0[call[0]] += due > 0 ? 1 : 0;
            for (int way = 1; way < WAYS; way++) {
                takeLevel(graphs[way], way, i);
                int got = answer(graphs[way], call);
                if (got != due && wrong++ < 20) {
                    System.out.println("run " + run + ", levels taken in way " + way + ": call " + i + " "
                        + Arrays.toString(call) + " answered " + got + ", without levels " + due);
                }
            }
        }
    }

    public static void main(String[] args) {
        for (int run = 0; run < RUNS; run++) {
            run(run);
        }
        System.out.println("answered above 0, by method: " + Arrays.toString(above0));
        System.out.println(wrong == 0 ? "no level shows" : wrong + " answers show a level");
        if (wrong != 0) {
            System.exit(1);
        }
    }
}
