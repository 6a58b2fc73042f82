import java.io.IOException;
import java.lang.reflect.Array;
import java.lang.reflect.Field;
import java.lang.reflect.Method;
import java.lang.reflect.Modifier;
import java.nio.charset.StandardCharsets;
import java.nio.file.Files;
import java.nio.file.Path;
import java.util.Collections;
import java.util.IdentityHashMap;
import java.util.Set;
import java.util.TreeSet;
import java.util.regex.Matcher;
import java.util.regex.Pattern;

/** What of ../shared/LANGUAGE.md can be told from the source and the compiled classes. */
public final class LanguageTest {
    private static final String[] NEVER = {"->", "::", "\\binstanceof\\b", "\\bfinally\\b", "\\bcatch\\b",
        "\\btry\\b", "\\bsynchronized\\b", "\\bassert\\b", "\\bstatic\\s*\\{", "Exact\\b", "\\bvolatile\\b", "\\bvar\\b",
        "\\bpackage\\b", "\\bthrow\\s+(?!new\\b)", "\\bSystem\\.(?!arraycopy\\b)", "\\bObject\\b", "\\bwhile\\s*\\(\\s*true",
        "\\bfloat\\b", "\\bdouble\\b", "\"\\s*\\+", "\\+\\s*\""};

    public static void main(String[] args) throws IOException {
        String whole = Files.readString(Path.of("src/main/java/WhiteBoard.java"), StandardCharsets.UTF_8);
        String source = whole.replaceAll("(?s)/\\*.*?\\*/", "").replaceAll("//[^\n]*", "");
        for (String never : NEVER) {
            Matcher matcher = Pattern.compile(never).matcher(source);
            Check.due("the source has " + never, matcher.find(), false);
        }
        Matcher imports = Pattern.compile("import [^;]*;").matcher(source);
        while (imports.find()) {
            Check.due(imports.group(), imports.group().equals("import java.util.NoSuchElementException;"), true);
        }
        classes();
        methods(source);
        made(source);
        room();
        Check.end("LanguageTest");
    }

    private static void classes() {
        Set<String> face = new TreeSet<>();
        for (Method method : WhiteBoard.class.getDeclaredMethods()) {
            if (Modifier.isPublic(method.getModifiers())) {
                face.add(method.getName());
            }
        }
        Class<?>[] inside = WhiteBoard.class.getDeclaredClasses();
        Check.due("classes in the file are at most 12", inside.length + 1 <= 12, true);
        for (Class<?> one : inside) {
            Check.due(one + " is static", Modifier.isStatic(one.getModifiers()), true);
            Check.due(one + " is private", Modifier.isPrivate(one.getModifiers()), true);
            int fields = 0;
            for (Field field : one.getDeclaredFields()) {
                boolean isStatic = Modifier.isStatic(field.getModifiers());
                Check.due(field + " is static and not final", isStatic && !Modifier.isFinal(field.getModifiers()), false);
                fields += isStatic ? 0 : 1;
            }
            Check.due(one + " has at most 20 fields", fields <= 20, true);
            for (Method method : one.getDeclaredMethods()) {
                Check.due(method + " bears a name of the face", face.contains(method.getName()), false);
                Check.due(method + " has at most 7 parameters", method.getParameterCount() <= 7, true);
            }
        }
    }

    private static void methods(String source) {
        Matcher matcher = Pattern.compile("\n( {4}| {8})(?:\\w[\\w\\[\\] ]*)\\([^{;]*\\{\n(.*?)\n\\1\\}", Pattern.DOTALL).matcher(source);
        int many = 0;
        while (matcher.find()) {
            many++;
            int lines = matcher.group(2).split("\n").length;
            Check.due("sixty lines at most, not " + lines + " in " + matcher.group().trim().split("\n")[0], lines <= 60, true);
        }
        Check.due("methods were found", many > 100, true);
    }

    /** Calls make nothing but exceptions: all else is a field's, or one of the acts that a constructor makes room for. */
    private static void made(String source) {
        int many = 0;
        for (String line : source.split("\n")) {
            if (Pattern.compile("\\bnew\\b").matcher(line).find()) {
                many++;
                boolean isThrown = line.matches(" +(default: )?throw new \\w+\\(\"[^\"]*\"\\);");
                boolean isField = line.matches("( {4}| {8})(private |final |private final )\\w+(\\[\\])? \\w+ = new .*;");
                boolean isAct = line.trim().equals("kept[i] = new Moment();");
                Check.due("made in a call: " + line.trim(), isThrown || isField || isAct, true);
            }
        }
        Check.due("things that are made were found", many > 60, true);
    }

    /** All calls of a run live in one room: an object takes so much that a run may have hundreds of them. */
    private static void room() {
        long[] taken = new long[2];
        count(new WhiteBoard(), taken, Collections.newSetFromMap(new IdentityHashMap<>()));
        Check.due("objects and arrays of one WhiteBoard, " + taken[0] + ", are at most 600", taken[0] <= 600, true);
        Check.due("fields and elements of one WhiteBoard, " + taken[1] + ", are at most 14000", taken[1] <= 14000, true);
        Check.due("objects and arrays were found", taken[0] > 100, true);
    }

    private static void count(Object one, long[] taken, Set<Object> counted) {
        if (one == null || !counted.add(one)) {
            return;
        }
        taken[0]++;
        try {
            if (one.getClass().isArray()) {
                int length = Array.getLength(one);
                taken[1] += length;
                for (int i = 0; i < length && !one.getClass().getComponentType().isPrimitive(); i++) {
                    count(Array.get(one, i), taken, counted);
                }
                return;
            }
            for (Field field : one.getClass().getDeclaredFields()) {
                if (!Modifier.isStatic(field.getModifiers())) {
                    taken[1]++;
                    field.setAccessible(true);
                    count(field.getType().isPrimitive() ? null : field.get(one), taken, counted);
                }
            }
        } catch (IllegalAccessException e) {
            throw new IllegalStateException(e);
        }
    }
}
