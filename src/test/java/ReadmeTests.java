import java.lang.reflect.Method;
import java.lang.reflect.Modifier;
import java.nio.file.Files;
import java.nio.file.Path;
import java.util.ArrayList;
import java.util.List;
import java.util.TreeSet;
import java.util.regex.Matcher;
import java.util.regex.Pattern;
import java.util.stream.Stream;

// README.md tells of every kind as the document does, shows every kind and method in its examples, and names every
// test. Whether its examples answer as it says is tested by ReadmeRuns, which is made of them.
public final class ReadmeTests {
    private static final int KINDS = 15;

    private static int wrong = 0;

    private static void due(String what, boolean holds) {
        if (!holds) {
            wrong++;
            System.out.println("not so: " + what);
        }
    }

    public static void main(String[] args) throws Exception {
        String readme = Files.readString(Path.of("README.md"));
        String document = Files.readString(Path.of("../shared/DOC.md")).replaceAll("\\s+", " ");
        kinds(readme, document);
        examples(readme);
        tests(readme);
        System.out.println(wrong == 0 ? "README.md is as due" : wrong + " things are not as due");
        if (wrong != 0) {
            System.exit(1);
        }
    }

    private static void kinds(String readme, String document) {
        Matcher row = Pattern.compile("(?m)^\\| (\\d+) \\| (\\w+) \\| ?([\\w, ]*?) ?\\| (an event|a cell) \\|").matcher(readme);
        int rows = 0;
        while (row.find()) {
            due("row " + rows + " is of kind " + row.group(1), row.group(1).equals("" + rows));
            String operands = row.group(3).isEmpty() ? "" : " " + row.group(3);
            String told = row.group(1) + " " + row.group(2) + operands + ", " + row.group(4) + ":";
            due("the document says: " + told, document.contains(" " + told));
            rows++;
        }
        due("a row for each kind, not " + rows, rows == KINDS);
    }

    private static void examples(String readme) {
        List<String> blocks = new ArrayList<>();
        Matcher block = Pattern.compile("(?s)```java\n(.*?)```").matcher(readme);
        while (block.find()) {
            blocks.add(block.group(1));
        }
        String shown = String.join("\n", blocks);
        for (int kind = 0; kind < KINDS; kind++) {
            due("an example makes a node of kind " + kind, Pattern.compile("int \\w+ = g\\.node\\(" + kind + ",").matcher(shown).find());
        }
        for (Method method : SignalGraph.class.getDeclaredMethods()) {
            if (Modifier.isPublic(method.getModifiers())) {
                due("an example calls " + method.getName(), shown.contains("g." + method.getName() + "("));
            }
        }
        due("an example answers BAD", shown.contains("// SignalGraph.BAD"));
        due("an example answers FULL", shown.contains("// SignalGraph.FULL"));
    }

    private static void tests(String readme) throws Exception {
        due("README.md says how the tests are run", readme.contains("\n    .ci/run\n"));
        TreeSet<String> names = new TreeSet<>();
        for (String directory : List.of("src/test/java", "src/test/helpers")) {
            try (Stream<Path> files = Files.list(Path.of(directory))) {
                files.forEach(file -> names.add(file.getFileName().toString().replace(".java", "")));
            }
        }
        for (String name : names) {
            due("README.md names " + name, readme.contains("`" + name + "`") || readme.contains("`" + name + ".java`"));
        }
    }
}
