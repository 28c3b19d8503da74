import java.util.ArrayList;
import java.util.Arrays;
import java.util.HashMap;
import java.util.HashSet;
import java.util.List;
import java.util.Map;
import java.util.Set;

// Runs of 512 calls, the same ones every time, on a SignalGraph and on a model that works each answer out from the
// whole history by the words of the document.
public final class ModelTests {
    private static final int RUNS = 3000;
    private static final int CALLS = 512;
    private static final int MOST_WRONG = 20;

    // Operands are other Nodes here, not numbers, so that a number that is used again can't be mixed up.
    private static final class Node {
        int number;
        int kind;
        Node[] made = new Node[3];
        int[] numbers = new int[3];
        int madeAt;
        // Per transaction since madeAt: an event's value or null; a cell's value after it.
        Map<Integer, Integer> history = new HashMap<>();
        int first;
    }

    private static final class Model {
        final List<Node> nodes = new ArrayList<>();
        final Map<Node, Integer> fired = new HashMap<>();
        int transactions = 0;

        static final String[] OPERANDS = {
            "---", "e--", "e--", "ee-", "e--", "ec-", "cc-", "ec-", "e--", "c--", "cee", "e--", "e--", "ccc", "c--"};

        static boolean isCell(Node node) {
            return node.kind == 4 || node.kind == 6 || node.kind == 13 || node.kind == 14;
        }

        Node at(int n) {
            return n >= 0 && n < nodes.size() ? nodes.get(n) : null;
        }

        int node(int kind, int x, int y, int z) {
            if (nodes.size() == 24) {
                return -2;
            }
            if (kind < 0 || kind > 14) {
                return -1;
            }
            Node node = new Node();
            node.kind = kind;
            node.numbers = new int[] {x, y, z};
            for (int i = 0; i < 3; i++) {
                char sort = OPERANDS[kind].charAt(i);
                if (sort == '-' || kind == 4 && node.numbers[i] == -1) {
                    continue;
                }
                Node operand = at(node.numbers[i]);
                if (operand == null || isCell(operand) != (sort == 'c')) {
                    return -1;
                }
                node.made[i] = operand;
            }
            node.madeAt = transactions;
            node.number = nodes.size();
            nodes.add(node);
            if (isCell(node)) {
                node.first = kind == 4 ? y : derived(node, transactions);
            }
            return node.number;
        }

        Set<Node> parts(Node node) {
            Set<Node> parts = new HashSet<>(Arrays.asList(node.made));
            parts.remove(null);
            if (node.kind == 11) {
                parts.clear();
            }
            if (node.kind == 5 || node.kind == 7 || node.kind == 10) {
                parts.removeIf(Model::isCell);
            }
            return parts;
        }

        boolean leads(Node from, Node to) {
            for (Node part : parts(from)) {
                if (part == to || leads(part, to)) {
                    return true;
                }
            }
            return false;
        }

        boolean tie(int h, int e) {
            Node hold = at(h);
            Node event = at(e);
            if (hold == null || hold.kind != 4) {
                return false;
            }
            if (e == -1) {
                hold.made[0] = null;
                return true;
            }
            if (event == null || isCell(event) || leads(event, hold)) {
                return false;
            }
            hold.made[0] = event;
            return true;
        }

        int retract() {
            if (nodes.isEmpty()) {
                return -1;
            }
            Node gone = nodes.remove(nodes.size() - 1);
            for (Node node : nodes) {
                if (node.kind == 4 && node.made[0] == gone) {
                    node.made[0] = null;
                }
            }
            return nodes.size();
        }

        boolean fire(int s, int value) {
            Node source = at(s);
            if (source == null || source.kind != 0) {
                return false;
            }
            fired.put(source, value);
            return true;
        }

        int commit() {
            transactions++;
            int having = 0;
            for (Node node : nodes) {
                if (isCell(node)) {
                    after(node, transactions);
                } else if (has(node, transactions) != null) {
                    having++;
                }
            }
            fired.clear();
            return having;
        }

        // A cell's value after transaction t (and before t + 1); 0 stands for the start.
        int after(Node cell, int t) {
            if (t <= cell.madeAt) {
                return cell.first;
            }
            if (!cell.history.containsKey(t)) {
                int value;
                if (cell.kind == 4) {
                    Integer got = cell.made[0] == null ? null : has(cell.made[0], t);
                    value = got == null ? after(cell, t - 1) : got;
                } else {
                    value = derived(cell, t);
                }
                cell.history.put(t, value);
            }
            return cell.history.get(t);
        }

        int derived(Node cell, int t) {
            int x = after(cell.made[0], t);
            if (cell.kind == 6) {
                return x + after(cell.made[1], t);
            }
            if (cell.kind == 13) {
                return after(x != 0 ? cell.made[1] : cell.made[2], t);
            }
            return x * cell.numbers[1] + cell.numbers[2];
        }

        // An event's value in transaction t, or null.
        Integer has(Node event, int t) {
            if (t <= event.madeAt) {
                return null;
            }
            if (!event.history.containsKey(t)) {
                event.history.put(t, work(event, t));
            }
            return event.history.get(t);
        }

        Integer work(Node event, int t) {
            int kind = event.kind;
            if (kind == 0) {
                return fired.get(event);
            }
            if (kind == 9) {
                int after = after(event.made[0], t);
                return after == after(event.made[0], t - 1) ? null : (Integer) after;
            }
            if (kind == 10) {
                return has(after(event.made[0], t - 1) != 0 ? event.made[1] : event.made[2], t);
            }
            if (kind == 11) {
                return t - 1 > event.madeAt ? has(event.made[0], t - 1) : null;
            }
            Integer e = has(event.made[0], t);
            if (kind == 3) {
                Integer f = has(event.made[1], t);
                return e == null ? f : f == null ? e : (Integer) (e + f);
            }
            if (e == null) {
                return null;
            }
            switch (kind) {
                case 1: return e * event.numbers[1] + event.numbers[2];
                case 2: return e >= event.numbers[1] ? e : null;
                case 5: return e + after(event.made[1], t - 1);
                case 7: return after(event.made[1], t - 1) != 0 ? e : null;
                case 8: return sumOf(event.made[0], event.madeAt, t);
                default: return hadBefore(event.made[0], event.madeAt, t) ? null : e;
            }
        }

        int sumOf(Node e, int after, int last) {
            int sum = 0;
            for (int t = after + 1; t <= last; t++) {
                Integer got = has(e, t);
                sum += got == null ? 0 : got;
            }
            return sum;
        }

        boolean hadBefore(Node e, int after, int end) {
            for (int t = after + 1; t < end; t++) {
                if (has(e, t) != null) {
                    return true;
                }
            }
            return false;
        }

        boolean had(int n) {
            Node node = at(n);
            return node != null && !isCell(node) && has(node, transactions) != null;
        }

        int value(int n) {
            Node node = at(n);
            if (node == null) {
                return 0;
            }
            if (isCell(node)) {
                return after(node, transactions);
            }
            Integer got = has(node, transactions);
            return got == null ? 0 : got;
        }

        int times(int n) {
            Node node = at(n);
            if (node == null) {
                return -1;
            }
            int times = 0;
            for (int t = 1; !isCell(node) && t <= transactions; t++) {
                times += has(node, t) == null ? 0 : 1;
            }
            return times;
        }

        int sort(int n) {
            Node node = at(n);
            return node == null ? -1 : isCell(node) ? 2 : 1;
        }

        boolean leads(int n, int m) {
            return at(n) != null && at(m) != null && leads(at(n), at(m));
        }
    }

    private static long state;
    private static int wrong = 0;
    private static final long[] calls = new long[12];
    private static final long[] taken = new long[12];

    // A fixed row of numbers (splitmix64), so that every run of the tests makes the same calls.
    private static int below(int bound) {
        state += 0x9E3779B97F4A7C15L;
        long mixed = state;
        mixed = (mixed ^ (mixed >>> 30)) * 0xBF58476D1CE4E5B9L;
        mixed = (mixed ^ (mixed >>> 27)) * 0x94D049BB133111EBL;
        mixed ^= mixed >>> 31;
        return (int) ((mixed >>> 1) % bound);
    }

    private static final int[] EDGES = {Integer.MIN_VALUE, Integer.MAX_VALUE, -1, -2, 24, 25, 32, 64, 1 << 16};

    private static int someNode(Model model) {
        if (below(25) == 0) {
            return EDGES[below(EDGES.length)];
        }
        return below(model.nodes.size() + 1);
    }

    // Mostly a node of the wanted sort, so that most calls are not refused.
    private static int someOf(Model model, char sort) {
        for (int tries = 0; tries < 20 && below(30) != 0; tries++) {
            int n = someNode(model);
            if (model.sort(n) == (sort == 'c' ? 2 : 1)) {
                return n;
            }
        }
        return someNode(model);
    }

    private static int someNumber() {
        return below(12) == 0 ? EDGES[below(EDGES.length)] : below(9) - 4;
    }

    private static void compare(int run, int call, String what, int got, int want) {
        if (got != want) {
            wrong++;
            if (wrong <= MOST_WRONG) {
                System.out.println("run " + run + ", call " + call + ": " + what + " answered " + got + ", due is " + want);
            }
        }
    }

    private static int bit(boolean answer) {
        return answer ? 1 : 0;
    }

    private static void oneCall(int run, int call, SignalGraph g, Model model, int which) {
        int got;
        int want;
        String what;
        int n = someNode(model);
        int v = someNumber();
        switch (which) {
            case 0:
                int kind = below(40) == 0 ? EDGES[below(EDGES.length)] : below(16);
                String operands = kind >= 0 && kind <= 14 ? Model.OPERANDS[kind] : "---";
                int[] used = new int[3];
                for (int i = 0; i < 3; i++) {
                    used[i] = operands.charAt(i) == '-' ? someNumber() : someOf(model, operands.charAt(i));
                }
                if (kind == 4 && below(3) == 0) {
                    used[0] = -1;
                }
                what = "node(" + kind + ", " + used[0] + ", " + used[1] + ", " + used[2] + ")";
                got = g.node(kind, used[0], used[1], used[2]);
                want = model.node(kind, used[0], used[1], used[2]);
                break;
            case 1:
                int h = n;
                for (int tries = 0; tries < 10 && (model.at(h) == null || model.at(h).kind != 4); tries++) {
                    h = someNode(model);
                }
                int e = below(8) == 0 ? -1 : someOf(model, 'e');
                what = "tie(" + h + ", " + e + ")";
                got = bit(g.tie(h, e));
                want = bit(model.tie(h, e));
                break;
            case 2:
                what = "retract()";
                got = g.retract();
                want = model.retract();
                break;
            case 3:
                int s = n;
                for (int tries = 0; tries < 10 && (model.at(s) == null || model.at(s).kind != 0); tries++) {
                    s = someNode(model);
                }
                what = "fire(" + s + ", " + v + ")";
                got = bit(g.fire(s, v));
                want = bit(model.fire(s, v));
                break;
            case 4:
                what = "commit()";
                got = g.commit();
                want = model.commit();
                break;
            case 5:
                what = "had(" + n + ")";
                got = bit(g.had(n));
                want = bit(model.had(n));
                break;
            case 6:
                what = "value(" + n + ")";
                got = g.value(n);
                want = model.value(n);
                break;
            case 7:
                what = "times(" + n + ")";
                got = g.times(n);
                want = model.times(n);
                break;
            case 8:
                what = "sort(" + n + ")";
                got = g.sort(n);
                want = model.sort(n);
                break;
            case 9:
                int m = someNode(model);
                what = "leads(" + n + ", " + m + ")";
                got = bit(g.leads(n, m));
                want = bit(model.leads(n, m));
                break;
            case 10:
                what = "transactions()";
                got = g.transactions();
                want = model.transactions;
                break;
            default:
                what = "level(" + v + ")";
                got = bit(g.level(v));
                want = v == 0 || v == 1 ? 1 : 0;
                break;
        }
        compare(run, call, what, got, want);
        calls[which]++;
        taken[which] += want > 0 ? 1 : 0;
    }

    // After a transaction most runs look at every node, for a wrong value may be overwritten unseen.
    private static int lookAtAll(int run, int call, SignalGraph g, Model model) {
        for (int n = 0; n < model.nodes.size(); n++) {
            compare(run, call, "value(" + n + ")", g.value(n), model.value(n));
            compare(run, call, "had(" + n + ")", bit(g.had(n)), bit(model.had(n)));
        }
        return 2 * model.nodes.size();
    }

    private static void run(int run) {
        state = run;
        SignalGraph g = new SignalGraph();
        Model model = new Model();
        boolean looks = run % 3 != 0;
        int retracts = below(4) * 3;
        int call = 0;
        while (call + 48 < CALLS) {
            int roll = below(100);
            int which = model.nodes.size() < 6 && roll < 70 ? 0
                : roll < 22 ? 0 : roll < 34 ? 1 : roll < 34 + retracts ? 2 : roll < 64 ? 3 : roll < 84 ? 4
                : 5 + below(7);
            oneCall(run, call, g, model, which);
            call++;
            if (which == 4 && looks) {
                call += lookAtAll(run, call, g, model);
            }
        }
        while (call < CALLS) {
            oneCall(run, call, g, model, 5 + below(7));
            call++;
        }
        goOn(g);
    }

    // What calls after the 512th answer is free, but none may throw (LANGUAGE.md, rule 7).
    private static void goOn(SignalGraph g) {
        for (int i = 0; i < 100; i++) {
            int n = below(6) == 0 ? EDGES[below(EDGES.length)] : below(24);
            int m = below(6) == 0 ? EDGES[below(EDGES.length)] : below(24);
            g.node(below(15), n, m, below(24));
            g.tie(n, m);
            g.fire(n, m);
            g.commit();
            g.had(n);
            g.value(n);
            g.times(n);
            g.sort(n);
            g.leads(n, m);
            g.transactions();
            g.level(m);
            if (below(3) == 0) {
                g.retract();
            }
        }
    }

    public static void main(String[] args) {
        for (int run = 0; run < RUNS; run++) {
            run(run);
        }
        System.out.println("calls by method: " + Arrays.toString(calls) + ", answered above 0: " + Arrays.toString(taken));
        System.out.println(wrong == 0 ? "all answers are as due" : wrong + " answers are not as due");
        if (wrong != 0) {
            System.exit(1);
        }
    }
}
