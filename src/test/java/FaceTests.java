import java.lang.reflect.Constructor;
import java.lang.reflect.Field;
import java.lang.reflect.Member;
import java.lang.reflect.Method;
import java.lang.reflect.Modifier;
import java.nio.file.Files;
import java.nio.file.Path;
import java.util.Arrays;
import java.util.HashSet;
import java.util.List;
import java.util.Map;
import java.util.Set;
import java.util.TreeMap;
import java.util.TreeSet;
import java.util.regex.Matcher;
import java.util.regex.Pattern;

// The class has the document's members and no others that can be seen, and keeps to those rules of LANGUAGE.md that
// show in its members or its words.
public final class FaceTests {
    private static final List<String> FACE = List.of(
        "public static final int SignalGraph.BAD",
        "public static final int SignalGraph.FULL",
        "public SignalGraph()",
        "public int SignalGraph.node(int,int,int,int)",
        "public boolean SignalGraph.tie(int,int)",
        "public int SignalGraph.retract()",
        "public boolean SignalGraph.fire(int,int)",
        "public int SignalGraph.commit()",
        "public boolean SignalGraph.had(int)",
        "public int SignalGraph.value(int)",
        "public int SignalGraph.times(int)",
        "public int SignalGraph.sort(int)",
        "public boolean SignalGraph.leads(int,int)",
        "public int SignalGraph.transactions()",
        "public boolean SignalGraph.level(int)");

    private static final List<String> WORDS_LEFT_OUT = List.of("throw", "try", "catch", "finally", "synchronized",
        "assert", "instanceof", "null", "import", "package", "float", "double", "String", "System", "Math", "Integer",
        "Arrays", "Object", "protected", "interface", "enum", "record", "var");

    private static int wrong = 0;

    private static void due(String what, boolean holds) {
        if (!holds) {
            wrong++;
            System.out.println("not so: " + what);
        }
    }

    public static void main(String[] args) throws Exception {
        Class<?> face = SignalGraph.class;
        due("the class is public and final", face.getModifiers() == (Modifier.PUBLIC | Modifier.FINAL));
        due("no package", face.getPackageName().isEmpty());
        due("no nested class", face.getDeclaredClasses().length == 0);
        due("nothing above it", face.getSuperclass() == Object.class && face.getInterfaces().length == 0);
        document();
        members(face);
        fields(face);
        words();
        methods();
        System.out.println(wrong == 0 ? "the face is as due" : wrong + " things are not as due");
        if (wrong != 0) {
            System.exit(1);
        }
    }

    // The members above are those that the document shows.
    private static void document() throws Exception {
        String text = Files.readString(Path.of("../shared/DOC.md"));
        Matcher block = Pattern.compile("(?s)## The public face\\s+```java\n(.*?)```").matcher(text);
        due("the document shows the face", block.find());
        Set<String> shown = new TreeSet<>();
        Matcher member = Pattern.compile("(?m)^    public (.*);$").matcher(block.group(1));
        while (member.find()) {
            shown.add(asReflected(member.group(1)));
        }
        due("the document shows " + shown, shown.equals(new TreeSet<>(FACE)));
        due("BAD is -1 and FULL -2", SignalGraph.BAD == -1 && SignalGraph.FULL == -2);
    }

    // "int node(int kind, int x)" is "public int SignalGraph.node(int,int)" there, and a constant has no value.
    private static String asReflected(String member) {
        String plain = member.replaceAll(" = .*", "").replaceAll("(\\w+) \\w+(?=[,)])", "$1").replace(", ", ",");
        return "public " + plain.replaceAll("(\\w+)(\\(.*)?$", "SignalGraph.$1$2").replace("SignalGraph.SignalGraph", "SignalGraph");
    }

    private static void members(Class<?> face) {
        Set<String> seen = new TreeSet<>();
        Set<String> publicNames = new HashSet<>();
        for (Method method : face.getDeclaredMethods()) {
            if (!Modifier.isPrivate(method.getModifiers())) {
                seen.add(method.toString());
                publicNames.add(method.getName());
            }
        }
        for (Constructor<?> constructor : face.getDeclaredConstructors()) {
            addIfSeen(seen, constructor);
        }
        for (Field field : face.getDeclaredFields()) {
            addIfSeen(seen, field);
        }
        due("the members are " + FACE + ", not " + seen, seen.equals(new TreeSet<>(FACE)));
        for (Method method : face.getDeclaredMethods()) {
            boolean isPrivate = Modifier.isPrivate(method.getModifiers());
            due(method + " has a name of its own", !isPrivate || !publicNames.contains(method.getName()));
            due(method + " takes at most seven", method.getParameterCount() <= 7);
            due(method + " answers no array", !method.getReturnType().isArray());
        }
    }

    private static void addIfSeen(Set<String> seen, Member member) {
        if (!Modifier.isPrivate(member.getModifiers())) {
            seen.add(member.toString());
        }
    }

    private static void fields(Class<?> face) {
        Set<Class<?>> allowed = new HashSet<>(Arrays.asList(int.class, long.class, short.class, byte.class,
            char.class, boolean.class));
        int held = 0;
        for (Field field : face.getDeclaredFields()) {
            Class<?> type = field.getType();
            if (Modifier.isStatic(field.getModifiers())) {
                due(field + " is a constant", Modifier.isFinal(field.getModifiers())
                    && (type == int.class || type == long.class));
            } else {
                held++;
                due(field + " is of an allowed type", allowed.contains(type.isArray() ? type.getComponentType() : type));
            }
        }
        due("at most forty fields", held <= 40);
    }

    private static void words() throws Exception {
        String text = Files.readString(Path.of("src/main/java/SignalGraph.java"));
        String code = text.replaceAll("//[^\n]*", "").replaceAll("(?s)/\\*.*?\\*/", "");
        for (String word : WORDS_LEFT_OUT) {
            due("no " + word, !Pattern.compile("\\b" + word + "\\b").matcher(code).find());
        }
        due("no lambda or method reference", !code.contains("->") && !code.contains("::"));
        Matcher made = Pattern.compile("\\bnew\\b").matcher(code);
        while (made.find()) {
            String line = code.substring(code.lastIndexOf('\n', made.start()) + 1, code.indexOf('\n', made.start()));
            due("made once, as a field: " + line, line.matches("    private final \\w+\\[\\] \\w+ = new \\w+\\[[A-Z_]+\\];"));
        }
    }

    // Rules 8 and 10, as far as the words of the methods show them.
    private static void methods() throws Exception {
        Map<String, String> bodies = bodies();
        for (String name : bodies.keySet()) {
            String body = bodies.get(name);
            due(name + " stays short", body.lines().count() <= 60);
            due(name + " calls at most six deep and not itself", depth(name, bodies, 0) <= 6);
            due(name + " has no call inside the arguments of another", !hasNestedCall(body));
            Matcher loop = Pattern.compile("\\b(while|do|for)\\b([^\n]*)").matcher(body);
            while (loop.find()) {
                due(name + " counts up to a bound: " + loop.group(), loop.group().matches(
                    "for \\(int (\\w+) = 0; \\1 < nodeCount( && [^;]*)?; \\1\\+\\+\\) \\{"));
            }
        }
    }

    private static Map<String, String> bodies() throws Exception {
        String text = Files.readString(Path.of("src/main/java/SignalGraph.java")).replaceAll("//[^\n]*", "");
        Matcher method = Pattern.compile("(?ms)^    (?:public|private) (?:static )?(?:\\w+ )?(\\w+)\\([^)]*\\) \\{\n(.*?)^    \\}")
            .matcher(text);
        Map<String, String> bodies = new TreeMap<>();
        while (method.find()) {
            bodies.put(method.group(1), method.group(2));
        }
        Set<String> declared = new TreeSet<>(List.of("SignalGraph"));
        for (Method each : SignalGraph.class.getDeclaredMethods()) {
            declared.add(each.getName());
        }
        due("the methods are found by their words", declared.equals(bodies.keySet()));
        return bodies;
    }

    private static int depth(String name, Map<String, String> bodies, int above) {
        if (above > bodies.size()) {
            return above;
        }
        int deepest = 0;
        Matcher call = Pattern.compile("\\b(\\w+)\\(").matcher(bodies.get(name));
        while (call.find()) {
            if (bodies.containsKey(call.group(1))) {
                deepest = Math.max(deepest, depth(call.group(1), bodies, above + 1));
            }
        }
        return deepest + 1;
    }

    private static boolean hasNestedCall(String body) {
        Matcher call = Pattern.compile("\\w\\(").matcher(body);
        while (call.find()) {
            int open = 1;
            int end = call.end();
            while (open > 0) {
                char next = body.charAt(end++);
                open += next == '(' ? 1 : next == ')' ? -1 : 0;
            }
            if (Pattern.compile("\\w\\(").matcher(body.substring(call.end(), end)).find()) {
                return true;
            }
        }
        return false;
    }
}
