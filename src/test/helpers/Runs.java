import java.nio.file.Files;
import java.nio.file.Path;
import java.util.ArrayList;
import java.util.Arrays;
import java.util.List;

// Runs of calls on a new object, written as text, each under the sentence of the document that it tests, or under
// words that tell which sentences meet in it.
//
// A run is a row of calls, parted by line ends or semicolons. A call is the name of a method, or of a kind for node
// with that kind, then its arguments, then the answer that is due behind "->". Arguments left out are 0. A call that
// makes or changes something may stand without an answer: it must not be refused then. "event 3 -> 5" calls had and
// value of event 3, and "event 3 -> none" is false and 0.
final class Runs {
    private static final int MOST_CALLS = 512;
    private static final List<String> KINDS = List.of("SOURCE", "MAP", "FILTER", "MERGE", "HOLD", "SNAP", "LIFT",
        "GATE", "COUNT", "CHANGE", "SWITCH", "DELAY", "ONCE", "SELECT", "TIMES");

    // Every run is made again with levels taken between its calls, for no answer may show them.
    private static final int[][] LEVELS = {{}, {0}, {1}, {0, 1}, {0, 0, 1}, {2, -1}, {0, 2}};

    private final String document;
    private int sentences = 0;
    private int runs = 0;
    private int wrong = 0;
    private String under;

    Runs() throws Exception {
        document = Files.readString(Path.of("../shared/DOC.md"));
    }

    // The sentence stands in that section of the document, and the runs answer as it says.
    void holds(String section, String sentence, String... texts) {
        under = section + ", \"" + sentence + "\"";
        sentences++;
        if (!plain(sectionText(section)).contains(plain(sentence))) {
            report("the document does not say so");
        }
        makeAll(texts);
    }

    // Several sentences at once, under words of the test's own.
    void together(String words, String... texts) {
        under = words;
        sentences++;
        makeAll(texts);
    }

    private void makeAll(String[] texts) {
        for (String text : texts) {
            runs++;
            List<String> calls = callsOf(text);
            for (int[] levels : LEVELS) {
                make(calls, levels);
            }
        }
    }

    // The template once for each value, with the value in the place of every %.
    static String each(String template, Object... values) {
        StringBuilder all = new StringBuilder();
        for (Object value : values) {
            all.append(template.replace("%", value.toString())).append('\n');
        }
        return all.toString();
    }

    void finish() {
        System.out.println(sentences + " sentences, " + runs + " runs; "
            + (wrong == 0 ? "all answers are as due" : wrong + " answers are not as due"));
        if (wrong != 0) {
            System.exit(1);
        }
    }

    private String sectionText(String section) {
        for (String part : document.split("(?m)^## ")) {
            if (part.startsWith(section + ":") || part.startsWith(section + "\n")) {
                return part;
            }
        }
        return "";
    }

    private static String plain(String text) {
        return text.replaceAll("\\s+", " ").trim();
    }

    private static List<String> callsOf(String text) {
        List<String> calls = new ArrayList<>();
        for (String line : text.split("[;\n]")) {
            String call = plain(line);
            if (call.startsWith("event ")) {
                String[] sides = call.substring("event ".length()).split(" -> ");
                boolean none = sides[1].equals("none");
                calls.add("had " + sides[0] + " -> " + !none);
                calls.add("value " + sides[0] + " -> " + (none ? "0" : sides[1]));
            } else if (!call.isEmpty()) {
                calls.add(call);
            }
        }
        return calls;
    }

    private void make(List<String> calls, int[] levels) {
        int room = MOST_CALLS - calls.size();
        if (room < 0) {
            throw new AssertionError(under + ": a run of " + calls.size() + " calls");
        }
        SignalGraph g = new SignalGraph();
        String how = levels.length == 0 ? "" : " (with levels " + Arrays.toString(levels) + " between)";
        for (int i = 0; i < calls.size(); i++) {
            if (levels.length > 0 && room > 0) {
                int k = levels[i % levels.length];
                if (g.level(k) != (k == 0 || k == 1)) {
                    report("level(" + k + ") before call " + (i + 1) + " answered wrongly");
                }
                room--;
            }
            check(g, calls.get(i), "call " + (i + 1) + how);
        }
    }

    private void check(SignalGraph g, String call, String where) {
        String[] sides = call.split(" -> ");
        String[] words = sides[0].split(" ");
        int kind = KINDS.indexOf(words[0]);
        String method = kind >= 0 ? "node" : words[0];
        int[] args = new int[4];
        int used = 0;
        if (kind >= 0) {
            args[used++] = kind;
        }
        for (int i = 1; i < words.length; i++) {
            args[used++] = number(words[i]);
        }
        int got;
        try {
            got = answer(g, method, args);
        } catch (RuntimeException thrown) {
            report(where + ", " + sides[0] + ", threw " + thrown);
            return;
        }
        if (sides.length == 2) {
            if (got != number(sides[1])) {
                report(where + ", " + sides[0] + ", answered " + got + ", due is " + sides[1]);
            }
        } else if (method.equals("node") ? got < 0 : isChange(method) && got == 0) {
            report(where + ", " + call + ", was refused with " + got);
        } else if (!method.equals("node") && !isChange(method) && !method.equals("commit")) {
            throw new AssertionError(under + ": no answer for " + call);
        }
    }

    private static boolean isChange(String method) {
        return method.equals("tie") || method.equals("fire") || method.equals("level");
    }

    private static int number(String word) {
        switch (word) {
            case "MIN": return Integer.MIN_VALUE;
            case "MAX": return Integer.MAX_VALUE;
            case "BAD": return -1;
            case "FULL": return -2;
            case "true": return 1;
            case "false": return 0;
            default: return Integer.parseInt(word);
        }
    }

    private static int answer(SignalGraph g, String method, int[] args) {
        switch (method) {
            case "node": return g.node(args[0], args[1], args[2], args[3]);
            case "tie": return g.tie(args[0], args[1]) ? 1 : 0;
            case "retract": return g.retract();
            case "fire": return g.fire(args[0], args[1]) ? 1 : 0;
            case "commit": return g.commit();
            case "had": return g.had(args[0]) ? 1 : 0;
            case "value": return g.value(args[0]);
            case "times": return g.times(args[0]);
            case "sort": return g.sort(args[0]);
            case "leads": return g.leads(args[0], args[1]) ? 1 : 0;
            case "transactions": return g.transactions();
            case "level": return g.level(args[0]) ? 1 : 0;
            default: throw new AssertionError("no method " + method);
        }
    }

    private void report(String what) {
        wrong++;
        System.out.println(under + ": " + what);
    }
}
