import java.lang.reflect.Constructor;
import java.lang.reflect.Field;
import java.lang.reflect.Member;
import java.lang.reflect.Method;
import java.lang.reflect.Modifier;
import java.nio.file.Files;
import java.nio.file.Path;
import java.util.Arrays;
import java.util.HashSet;
import java.util.List;
import java.util.Set;
import java.util.TreeSet;
import java.util.regex.Matcher;
import java.util.regex.Pattern;

// The class has the document's members and no others that can be seen, and keeps to those rules of LANGUAGE.md that
// show in its members or its words.
public final class FaceTests {
    private static final List<String> FACE = List.of(
        "public static final int SignalGraph.BAD",
        "public static final int SignalGraph.FULL",
        "public SignalGraph()",
        "public int SignalGraph.node(int,int,int,int)",
        "public boolean SignalGraph.tie(int,int)",
        "public int SignalGraph.retract()",
        "public boolean SignalGraph.fire(int,int)",
        "public int SignalGraph.commit()",
        "public boolean SignalGraph.had(int)",
        "public int SignalGraph.value(int)",
        "public int SignalGraph.times(int)",
        "public int SignalGraph.sort(int)",
        "public boolean SignalGraph.leads(int,int)",
        "public int SignalGraph.transactions()",
        "public boolean SignalGraph.level(int)");

    private static final List<String> WORDS_LEFT_OUT = List.of("throw", "try", "catch", "finally", "synchronized",
        "assert", "instanceof", "null", "import", "package", "float", "double", "String", "System", "Math", "Integer",
        "Arrays", "Object", "protected", "interface", "enum", "record", "var");

    private static int wrong = 0;

    private static void due(String what, boolean holds) {
        if (!holds) {
            wrong++;
            System.out.println("not so: " + what);
        }
    }

    public static void main(String[] args) throws Exception {
        Class<?> face = SignalGraph.class;
        due("the class is public and final", face.getModifiers() == (Modifier.PUBLIC | Modifier.FINAL));
        due("no package", face.getPackageName().isEmpty());
        due("no nested class", face.getDeclaredClasses().length == 0);
        due("nothing above it", face.getSuperclass() == Object.class && face.getInterfaces().length == 0);
        members(face);
        fields(face);
        words();
        System.out.println(wrong == 0 ? "the face is as due" : wrong + " things are not as due");
        if (wrong != 0) {
            System.exit(1);
        }
    }

    private static void members(Class<?> face) {
        Set<String> seen = new TreeSet<>();
        Set<String> publicNames = new HashSet<>();
        for (Method method : face.getDeclaredMethods()) {
            if (!Modifier.isPrivate(method.getModifiers())) {
                seen.add(method.toString());
                publicNames.add(method.getName());
            }
        }
        for (Constructor<?> constructor : face.getDeclaredConstructors()) {
            addIfSeen(seen, constructor);
        }
        for (Field field : face.getDeclaredFields()) {
            addIfSeen(seen, field);
        }
        due("the members are " + FACE + ", not " + seen, seen.equals(new TreeSet<>(FACE)));
        for (Method method : face.getDeclaredMethods()) {
            boolean isPrivate = Modifier.isPrivate(method.getModifiers());
            due(method + " has a name of its own", !isPrivate || !publicNames.contains(method.getName()));
            due(method + " takes at most seven", method.getParameterCount() <= 7);
            due(method + " answers no array", !method.getReturnType().isArray());
        }
    }

    private static void addIfSeen(Set<String> seen, Member member) {
        if (!Modifier.isPrivate(member.getModifiers())) {
            seen.add(member.toString());
        }
    }

    private static void fields(Class<?> face) {
        Set<Class<?>> allowed = new HashSet<>(Arrays.asList(int.class, long.class, short.class, byte.class,
            char.class, boolean.class));
        int held = 0;
        for (Field field : face.getDeclaredFields()) {
            Class<?> type = field.getType();
            if (Modifier.isStatic(field.getModifiers())) {
                due(field + " is a constant", Modifier.isFinal(field.getModifiers())
                    && (type == int.class || type == long.class));
            } else {
                held++;
                due(field + " is of an allowed type", allowed.contains(type.isArray() ? type.getComponentType() : type));
            }
        }
        due("at most forty fields", held <= 40);
    }

    private static void words() throws Exception {
        String text = Files.readString(Path.of("src/main/java/SignalGraph.java"));
        String code = text.replaceAll("//[^\n]*", "").replaceAll("(?s)/\\*.*?\\*/", "");
        for (String word : WORDS_LEFT_OUT) {
            due("no " + word, !Pattern.compile("\\b" + word + "\\b").matcher(code).find());
        }
        due("no lambda or method reference", !code.contains("->") && !code.contains("::"));
        Matcher made = Pattern.compile("\\bnew\\b").matcher(code);
        while (made.find()) {
            String line = code.substring(code.lastIndexOf('\n', made.start()) + 1, code.indexOf('\n', made.start()));
            due("made once, as a field: " + line, line.matches("    private final \\w+\\[\\] \\w+ = new \\w+\\[[A-Z_]+\\];"));
        }
    }
}
