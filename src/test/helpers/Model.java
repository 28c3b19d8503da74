import java.util.ArrayList;
import java.util.Arrays;
import java.util.HashMap;
import java.util.HashSet;
import java.util.List;
import java.util.Map;
import java.util.Set;

// A second, plain program that works each answer out from the whole history by the words of the document.
final class Model {
    // Operands are other Nodes here, not numbers, so that a number that is used again can't be mixed up.
    static final class Node {
        int number;
        int kind;
        Node[] made = new Node[3];
        int[] numbers = new int[3];
        int madeAt;
        // Per transaction since madeAt: an event's value or null; a cell's value after it.
        Map<Integer, Integer> history = new HashMap<>();
        int first;
    }

    final List<Node> nodes = new ArrayList<>();
    final Map<Node, Integer> fired = new HashMap<>();
    int transactions = 0;

    static final String[] OPERANDS = {
        "---", "e--", "e--", "ee-", "e--", "ec-", "cc-", "ec-", "e--", "c--", "cee", "e--", "e--", "ccc", "c--"};

    static boolean isCell(Node node) {
        return node.kind == 4 || node.kind == 6 || node.kind == 13 || node.kind == 14;
    }

    Node at(int n) {
        return n >= 0 && n < nodes.size() ? nodes.get(n) : null;
    }

    int node(int kind, int x, int y, int z) {
        if (nodes.size() == 24) {
            return -2;
        }
        if (kind < 0 || kind > 14) {
            return -1;
        }
        Node node = new Node();
        node.kind = kind;
        node.numbers = new int[] {x, y, z};
        for (int i = 0; i < 3; i++) {
            char sort = OPERANDS[kind].charAt(i);
            if (sort == '-' || kind == 4 && node.numbers[i] == -1) {
                continue;
            }
            Node operand = at(node.numbers[i]);
            if (operand == null || isCell(operand) != (sort == 'c')) {
                return -1;
            }
            node.made[i] = operand;
        }
        node.madeAt = transactions;
        node.number = nodes.size();
        nodes.add(node);
        if (isCell(node)) {
            node.first = kind == 4 ? y : derived(node, transactions);
        }
        return node.number;
    }

    Set<Node> parts(Node node) {
        Set<Node> parts = new HashSet<>(Arrays.asList(node.made));
        parts.remove(null);
        if (node.kind == 11) {
            parts.clear();
        }
        if (node.kind == 5 || node.kind == 7 || node.kind == 10) {
            parts.removeIf(Model::isCell);
        }
        return parts;
    }

    boolean leads(Node from, Node to) {
        for (Node part : parts(from)) {
            if (part == to || leads(part, to)) {
                return true;
            }
        }
        return false;
    }

    boolean tie(int h, int e) {
        Node hold = at(h);
        Node event = at(e);
        if (hold == null || hold.kind != 4) {
            return false;
        }
        if (e == -1) {
            hold.made[0] = null;
            return true;
        }
        if (event == null || isCell(event) || leads(event, hold)) {
            return false;
        }
        hold.made[0] = event;
        return true;
    }

    int retract() {
        if (nodes.isEmpty()) {
            return -1;
        }
        Node gone = nodes.remove(nodes.size() - 1);
        for (Node node : nodes) {
            if (node.kind == 4 && node.made[0] == gone) {
                node.made[0] = null;
            }
        }
        return nodes.size();
    }

    boolean fire(int s, int value) {
        Node source = at(s);
        if (source == null || source.kind != 0) {
            return false;
        }
        fired.put(source, value);
        return true;
    }

    int commit() {
        transactions++;
        int having = 0;
        for (Node node : nodes) {
            if (isCell(node)) {
                after(node, transactions);
            } else if (has(node, transactions) != null) {
                having++;
            }
        }
        fired.clear();
        return having;
    }

    // A cell's value after transaction t (and before t + 1); 0 stands for the start.
    int after(Node cell, int t) {
        if (t <= cell.madeAt) {
            return cell.first;
        }
        if (!cell.history.containsKey(t)) {
            int value;
            if (cell.kind == 4) {
                Integer got = cell.made[0] == null ? null : has(cell.made[0], t);
                value = got == null ? after(cell, t - 1) : got;
            } else {
                value = derived(cell, t);
            }
            cell.history.put(t, value);
        }
        return cell.history.get(t);
    }

    int derived(Node cell, int t) {
        int x = after(cell.made[0], t);
        if (cell.kind == 6) {
            return x + after(cell.made[1], t);
        }
        if (cell.kind == 13) {
            return after(x != 0 ? cell.made[1] : cell.made[2], t);
        }
        return x * cell.numbers[1] + cell.numbers[2];
    }

    // An event's value in transaction t, or null.
    Integer has(Node event, int t) {
        if (t <= event.madeAt) {
            return null;
        }
        if (!event.history.containsKey(t)) {
            event.history.put(t, work(event, t));
        }
        return event.history.get(t);
    }

    Integer work(Node event, int t) {
        int kind = event.kind;
        if (kind == 0) {
            return fired.get(event);
        }
        if (kind == 9) {
            int after = after(event.made[0], t);
            return after == after(event.made[0], t - 1) ? null : (Integer) after;
        }
        if (kind == 10) {
            return has(after(event.made[0], t - 1) != 0 ? event.made[1] : event.made[2], t);
        }
        if (kind == 11) {
            return t - 1 > event.madeAt ? has(event.made[0], t - 1) : null;
        }
        Integer e = has(event.made[0], t);
        if (kind == 3) {
            Integer f = has(event.made[1], t);
            return e == null ? f : f == null ? e : (Integer) (e + f);
        }
        if (e == null) {
            return null;
        }
        switch (kind) {
            case 1: return e * event.numbers[1] + event.numbers[2];
            case 2: return e >= event.numbers[1] ? e : null;
            case 5: return e + after(event.made[1], t - 1);
            case 7: return after(event.made[1], t - 1) != 0 ? e : null;
            case 8: return sumOf(event.made[0], event.madeAt, t);
            default: return hadBefore(event.made[0], event.madeAt, t) ? null : e;
        }
    }

    int sumOf(Node e, int after, int last) {
        int sum = 0;
        for (int t = after + 1; t <= last; t++) {
            Integer got = has(e, t);
            sum += got == null ? 0 : got;
        }
        return sum;
    }

    boolean hadBefore(Node e, int after, int end) {
        for (int t = after + 1; t < end; t++) {
            if (has(e, t) != null) {
                return true;
            }
        }
        return false;
    }

    boolean had(int n) {
        Node node = at(n);
        return node != null && !isCell(node) && has(node, transactions) != null;
    }

    int value(int n) {
        Node node = at(n);
        if (node == null) {
            return 0;
        }
        if (isCell(node)) {
            return after(node, transactions);
        }
        Integer got = has(node, transactions);
        return got == null ? 0 : got;
    }

    int times(int n) {
        Node node = at(n);
        if (node == null) {
            return -1;
        }
        int times = 0;
        for (int t = 1; !isCell(node) && t <= transactions; t++) {
            times += has(node, t) == null ? 0 : 1;
        }
        return times;
    }

    int sort(int n) {
        Node node = at(n);
        return node == null ? -1 : isCell(node) ? 2 : 1;
    }

    boolean leads(int n, int m) {
        return at(n) != null && at(m) != null && leads(at(n), at(m));
    }
}
