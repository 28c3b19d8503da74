import java.nio.file.Files;
import java.nio.file.Path;
import java.util.List;
import java.util.regex.Matcher;
import java.util.regex.Pattern;

// Writes a test, ReadmeRuns, from the Java that README.md shows: each block by itself, and behind each call whether it
// answered what its comment begins with. A line of another form is refused, so that no call is shown without its answer.
public final class ReadmeAsTest {
    private static final Pattern OBJECT = Pattern.compile("SignalGraph \\w+ = new SignalGraph\\(\\);(\\s*//.*)?");
    private static final Pattern LOOP = Pattern.compile("for \\(.*\\) \\{|\\}");
    private static final Pattern CALL = Pattern.compile("(?:(int|boolean) (\\w+) = )?(\\w+\\.\\w+\\(.*\\));\\s*// ([-\\w.]+)(:.*)?");

    private static final String HEAD = String.join("\n",
        "public final class ReadmeRuns {",
        "  private static int wrong = 0;",
        "  private static void due(int line, String call, int got, int want) {",
        "    if (got != want) {",
        "      wrong++;",
        "      System.out.println(\"README.md, line \" + line + \": \" + call + \" answered \" + got + \", due is \" + want);",
        "    }",
        "  }",
        "  private static void due(int line, String call, boolean got, boolean want) {",
        "    due(line, call, got ? 1 : 0, want ? 1 : 0);",
        "  }",
        "  public static void main(String[] args) {", "");
    private static final String FOOT = String.join("\n",
        "    System.out.println(wrong == 0 ? \"all answers are as due\" : wrong + \" answers are not as due\");",
        "    if (wrong != 0) { System.exit(1); }",
        "  }",
        "}", "");

    public static void main(String[] args) throws Exception {
        List<String> lines = Files.readAllLines(Path.of(args[0]));
        StringBuilder test = new StringBuilder(HEAD);
        boolean inside = false;
        int calls = 0;
        for (int i = 0; i < lines.size(); i++) {
            String line = lines.get(i).strip();
            if (!inside && line.equals("```java")) {
                inside = true;
                test.append("    {\n");
            } else if (inside && line.equals("```")) {
                inside = false;
                test.append("    }\n");
            } else if (inside) {
                calls += CALL.matcher(line).matches() ? 1 : 0;
                test.append(asTest(line, i + 1)).append('\n');
            }
        }
        if (calls == 0 || inside) {
            refuse("no calls, or a block without an end");
        }
        Files.writeString(Path.of(args[1]), test.append(FOOT));
    }

    private static String asTest(String line, int number) {
        if (line.isEmpty() || OBJECT.matcher(line).matches() || LOOP.matcher(line).matches()) {
            return line;
        }
        Matcher call = CALL.matcher(line);
        if (!call.matches()) {
            refuse("line " + number + " shows no call with its answer: " + line);
        }
        String told = "due(" + number + ", \"" + call.group(3) + "\", ";
        if (call.group(1) == null) {
            return told + call.group(3) + ", " + call.group(4) + ");";
        }
        return call.group(1) + " " + call.group(2) + " = " + call.group(3) + ";\n"
            + told + call.group(2) + ", " + call.group(4) + ");";
    }

    private static void refuse(String why) {
        System.out.println("README.md: " + why);
        System.exit(1);
    }
}
