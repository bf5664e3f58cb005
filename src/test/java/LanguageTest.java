import java.io.IOException;
import java.lang.reflect.Constructor;
import java.lang.reflect.Field;
import java.lang.reflect.Method;
import java.lang.reflect.Modifier;
import java.nio.file.Files;
import java.nio.file.Path;
import java.util.Arrays;
import java.util.HashMap;
import java.util.HashSet;
import java.util.List;
import java.util.Map;
import java.util.Set;
import java.util.TreeSet;
import java.util.regex.Matcher;
import java.util.regex.Pattern;

/** The public face, and those rules of LANGUAGE.md that a look at the class and its text can tell. */
public final class LanguageTest {
    private static final Check CHECK = new Check("LanguageTest");
    private static final Path SOURCE = Path.of("src/main/java/MarkCabinet.java");
    private static final List<String> FACE = List.of("feed 2", "row 1", "thin 0", "pieces 1", "print 1", "point 2",
        "reach 1", "lay 5", "match 2", "told 1", "pair 1", "keep 3", "part 1", "of 2", "melt 2", "like 1",
        "strangers 2", "flaws 1", "flaw 3", "age 2", "struck 1", "count 1");

    public static void main(String[] args) throws IOException {
        constants();
        face();
        membersOfClasses();
        String code = Files.readString(SOURCE).replaceAll("(?s)/\\*.*?\\*/", "").replaceAll("//[^\\n]*", "");
        words(code);
        library(code);
        methodLengths(Files.readAllLines(SOURCE));
        depthOfCalls(code);
        CHECK.end();
    }

    private static void constants() {
        CHECK.due("NONE", -1, MarkCabinet.NONE);
        CHECK.due("FULL", -2, MarkCabinet.FULL);
        CHECK.due("THERE", -3, MarkCabinet.THERE);
        CHECK.due("EMPTY", -4, MarkCabinet.EMPTY);
    }

    private static void face() {
        Class<?> type = MarkCabinet.class;
        CHECK.holds("public and final", Modifier.isPublic(type.getModifiers()) && Modifier.isFinal(type.getModifiers()));
        Set<String> methods = new TreeSet<>();
        for (Method m : type.getDeclaredMethods()) {
            if (!Modifier.isPrivate(m.getModifiers())) {
                boolean ofInts = m.getReturnType() == int.class
                    && Arrays.stream(m.getParameterTypes()).allMatch(p -> p == int.class);
                CHECK.holds(m + " is public, of the object, and of ints",
                    Modifier.isPublic(m.getModifiers()) && !Modifier.isStatic(m.getModifiers()) && ofInts);
                methods.add(m.getName() + " " + m.getParameterCount());
            }
        }
        CHECK.holds("the methods are those of the face", methods.equals(new TreeSet<>(FACE)));
        Set<String> constants = new TreeSet<>();
        for (Field f : type.getDeclaredFields()) {
            if (!Modifier.isPrivate(f.getModifiers())) {
                constants.add(f.getName());
            }
        }
        CHECK.holds("the constants are those of the face",
            constants.equals(new TreeSet<>(List.of("NONE", "FULL", "THERE", "EMPTY"))));
        Constructor<?>[] constructors = type.getDeclaredConstructors();
        CHECK.due("constructors", 1, constructors.length);
        CHECK.holds("it is public", Modifier.isPublic(constructors[0].getModifiers()));
        CHECK.due("it takes nothing", 0, constructors[0].getParameterCount());
    }

    private static void membersOfClasses() {
        Set<String> publicNames = new HashSet<>();
        FACE.forEach(m -> publicNames.add(m.split(" ")[0]));
        Class<?>[] inside = MarkCabinet.class.getDeclaredClasses();
        CHECK.holds("twelve classes at most", inside.length < 12);
        for (Class<?> type : inside) {
            CHECK.holds(type + " is static", Modifier.isStatic(type.getModifiers()));
            CHECK.holds(type + " is not public", !Modifier.isPublic(type.getModifiers()));
            for (Method m : type.getDeclaredMethods()) {
                CHECK.holds(m + " has a name of its own", !publicNames.contains(m.getName()));
            }
            members(type);
        }
        members(MarkCabinet.class);
        for (Method m : MarkCabinet.class.getDeclaredMethods()) {
            CHECK.holds(m + " has a name of its own",
                Modifier.isPublic(m.getModifiers()) || !publicNames.contains(m.getName()));
        }
    }

    private static void members(Class<?> type) {
        int fields = 0;
        for (Field f : type.getDeclaredFields()) {
            boolean shared = Modifier.isStatic(f.getModifiers());
            CHECK.holds(f + " is no static state", !shared || Modifier.isFinal(f.getModifiers()));
            fields += shared ? 0 : 1;
        }
        CHECK.holds(type + " has twenty fields at most", fields <= 20);
        for (Method m : type.getDeclaredMethods()) {
            CHECK.holds(m + " takes seven parameters at most", m.getParameterCount() <= 7);
        }
    }

    private static void words(String code) {
        Pattern wrong = Pattern.compile("\\b(throw|throws|try|catch|synchronized|assert|package|protected|native|var"
            + "|float|double|Exception|equals|hashCode|toString|Thread|Random|System\\.(?!arraycopy)\\w+"
            + "|\\w+Exact)\\b|->|::|static \\{");
        Matcher found = wrong.matcher(code);
        while (found.find()) {
            CHECK.holds("no " + found.group() + " in the program", false);
        }
        Matcher imports = Pattern.compile("import ([^;]+);").matcher(code);
        while (imports.find()) {
            CHECK.holds("import " + imports.group(1), imports.group(1).equals("java.util.Arrays"));
        }
    }

    private static void library(String code) {
        Set<String> allowed = Set.of("Arrays.copyOf", "Arrays.copyOfRange", "Arrays.fill", "System.arraycopy",
            "Integer.bitCount", "Math.min", "Math.max");
        Matcher calls = Pattern.compile("\\b(Arrays|System|Integer|Long|Math|String|List)\\.\\w+").matcher(code);
        while (calls.find()) {
            CHECK.holds(calls.group() + " is in the library's list", allowed.contains(calls.group()));
        }
    }

    /**
     * "calls that are no recursion go at most eight deep": by their names alone, so that methods of one name count
     * as one method that makes the calls of all of them; the library's calls count too.
     */
    private static void depthOfCalls(String code) {
        Map<String, Set<String>> calls = new HashMap<>();
        String method = "(?ms)^( {4}| {8})[a-z][\\w\\[\\] ]* (\\w+)\\([^)]*\\) \\{\\n(.*?)^\\1\\}$";
        Matcher m = Pattern.compile(method).matcher(code);
        while (m.find()) {
            Set<String> called = calls.computeIfAbsent(m.group(2), name -> new HashSet<>());
            Matcher call = Pattern.compile("(\\w+)\\(").matcher(m.group(3));
            while (call.find()) {
                called.add(call.group(1));
            }
        }
        for (String head : FACE) {
            String name = head.split(" ")[0];
            CHECK.holds(name + " is found in the text", calls.containsKey(name));
            int depth = depthOf(name, calls, new HashSet<>());
            CHECK.holds(name + " goes eight calls deep at most, not " + depth, depth <= 8);
        }
    }

    private static int depthOf(String name, Map<String, Set<String>> calls, Set<String> open) {
        int deepest = 0;
        open.add(name);
        for (String next : calls.getOrDefault(name, Set.of())) {
            if (!open.contains(next)) {
                deepest = Math.max(deepest, depthOf(next, calls, open));
            }
        }
        open.remove(name);
        return deepest + 1;
    }

    /** By the indents: a method's head stands at 4 or 8 and ends with '{', its end is a '}' of the same indent. */
    private static void methodLengths(List<String> lines) {
        Pattern head = Pattern.compile("^( {4}| {8})\\S.*\\) \\{$");
        for (int i = 0; i < lines.size(); i++) {
            Matcher m = head.matcher(lines.get(i));
            if (!m.matches()) {
                continue;
            }
            int end = i;
            while (!lines.get(end).equals(m.group(1) + "}") && end < lines.size() - 1) {
                end++;
            }
            CHECK.holds("sixty lines at most: " + lines.get(i).trim(), end - i < 60);
        }
    }
}
