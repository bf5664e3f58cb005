import java.io.IOException;
import java.lang.reflect.Method;
import java.lang.reflect.Modifier;
import java.nio.file.Files;
import java.nio.file.Path;
import java.util.ArrayList;
import java.util.Arrays;
import java.util.Comparator;
import java.util.List;
import java.util.Set;
import java.util.TreeSet;
import java.util.regex.Matcher;
import java.util.regex.Pattern;
import java.util.stream.Collectors;
import java.util.stream.Stream;

/** The ways to use the class and to run its tests that README.md tells: they work as they are told there. */
public final class ReadmeTest {
    private static final Check CHECK = new Check("ReadmeTest");
    /** The folder that README.md names; a new one takes its place here, so that nothing old helps or hinders. */
    private static final String FOLDER = "/tmp/cabinet";
    private static final String ALL_TESTS = ".ci/run";

    private final String readme;
    private final Path folder;

    private ReadmeTest(String readme, Path folder) {
        this.readme = readme.replace(FOLDER, folder.toString());
        this.folder = folder;
    }

    public static void main(String[] args) throws Exception {
        Path folder = Files.createTempDirectory("cabinet");
        try {
            ReadmeTest test = new ReadmeTest(Files.readString(Path.of("README.md")), folder);
            test.exampleIsSavedAsTold();
            test.commandsWork();
            test.callsAreThoseOfTheFace();
            test.refusalsAreAsTold();
            test.testsAreThoseOfTheProject();
        } finally {
            remove(folder);
        }
        CHECK.end();
    }

    private static void remove(Path folder) throws IOException {
        try (Stream<Path> all = Files.walk(folder)) {
            for (Path path : all.sorted(Comparator.reverseOrder()).collect(Collectors.toList())) {
                Files.delete(path);
            }
        }
    }

    /** What stands between the fences of this language. */
    private List<String> blocks(String language) {
        List<String> list = new ArrayList<>();
        Matcher m = Pattern.compile("(?ms)^```" + language + "\\n(.*?)^```$").matcher(readme);
        while (m.find()) {
            list.add(m.group(1));
        }
        return list;
    }

    private void exampleIsSavedAsTold() throws IOException {
        CHECK.due("programs", 1, blocks("java").size());
        CHECK.holds("it is told where to save it", readme.contains("`" + folder.resolve("Example.java") + "`"));
        Files.writeString(folder.resolve("Example.java"), String.join("", blocks("java")));
    }

    private void commandsWork() throws Exception {
        List<String> commands = blocks("sh");
        CHECK.due("blocks of commands", 3, commands.size());
        CHECK.due("blocks of what is printed", 1, blocks("text").size());
        for (String command : commands) {
            if (command.trim().equals(ALL_TESTS)) {
                // this test is one of all, so that it can't run all
                CHECK.holds(ALL_TESTS + " can be run", Files.isExecutable(Path.of(ALL_TESTS)));
                continue;
            }
            String printed = printedBy(command);
            if (command.contains("Example")) {
                CHECK.holds("what the program prints:\n" + printed, printed.equals(String.join("", blocks("text"))));
            } else {
                CHECK.holds("a single test tells no wrong answer: " + printed, printed.contains(" 0 wrong"));
            }
        }
    }

    private String printedBy(String command) throws Exception {
        Process process = new ProcessBuilder("bash", "-e", "-c", command).redirectErrorStream(true).start();
        process.getOutputStream().close();
        String printed = new String(process.getInputStream().readAllBytes()).replace("\r", "");
        CHECK.due("exit code of: " + command + printed, 0, process.waitFor());
        return printed;
    }

    /** The rows of the table of calls: the call, what it answers, what refuses it. */
    private List<String[]> calls() {
        List<String[]> rows = new ArrayList<>();
        Matcher m = Pattern.compile("(?m)^\\| `(\\w+\\([^`]*\\))` \\| (.*) \\| ?(.*) ?\\|$").matcher(readme);
        while (m.find()) {
            rows.add(new String[] {m.group(1), m.group(2), m.group(3).trim()});
        }
        return rows;
    }

    private static String nameOf(String[] row) {
        return row[0].substring(0, row[0].indexOf('('));
    }

    private static int parametersOf(String[] row) {
        String inside = row[0].substring(row[0].indexOf('(') + 1, row[0].length() - 1);
        return inside.isEmpty() ? 0 : inside.split(", ").length;
    }

    private static List<Method> face() {
        return Arrays.stream(MarkCabinet.class.getDeclaredMethods())
            .filter(m -> Modifier.isPublic(m.getModifiers())).collect(Collectors.toList());
    }

    private void callsAreThoseOfTheFace() {
        Set<String> told = new TreeSet<>();
        for (String[] row : calls()) {
            told.add(nameOf(row) + " " + parametersOf(row));
        }
        Set<String> there = new TreeSet<>();
        for (Method m : face()) {
            there.add(m.getName() + " " + m.getParameterCount());
        }
        CHECK.due("how many calls are told", there.size(), calls().size());
        CHECK.holds("calls " + told + " are " + there, told.equals(there));
    }

    /** Numbers that are wrong all of them are refused by the answer that is told first. */
    private void refusalsAreAsTold() throws Exception {
        for (String[] row : calls()) {
            for (Method m : face()) {
                if (m.getName().equals(nameOf(row)) && m.getParameterCount() > 0) {
                    Object[] wrong = new Object[m.getParameterCount()];
                    Arrays.fill(wrong, Integer.MIN_VALUE);
                    int due = row[2].startsWith("`NONE`") ? MarkCabinet.NONE : Integer.parseInt(row[2]);
                    CHECK.due(row[0] + " with wrong numbers", due, (int) m.invoke(new MarkCabinet(), wrong));
                }
            }
        }
    }

    private void testsAreThoseOfTheProject() throws IOException {
        try (Stream<Path> files = Files.list(Path.of("src/test/java"))) {
            for (Path file : files.collect(Collectors.toList())) {
                String name = file.getFileName().toString().replace(".java", "");
                CHECK.holds(name + " is told", readme.contains("`" + name + "`"));
            }
        }
    }
}
