import java.io.File;
import java.io.IOException;
import java.lang.reflect.Method;
import java.lang.reflect.Modifier;
import java.net.URL;
import java.net.URLClassLoader;
import java.nio.file.Files;
import java.nio.file.Path;
import java.util.ArrayList;
import java.util.Comparator;
import java.util.List;
import java.util.Set;
import java.util.TreeSet;
import java.util.regex.Matcher;
import java.util.regex.Pattern;
import java.util.stream.Stream;

/** What README.md shows answers as it says there, what it lists is there, and its commands do what it says. */
public final class ReadmeTest extends TestCourt {
    private static final Pattern ANSWERED = Pattern.compile("(.*);\\s+// (-?\\d+|true|false)(:.*)?");
    private static final String FIRST_LINE = "OwnHurt court = new OwnHurt();";
    private static final String USE = "ReadmeUse";

    private ReadmeTest() { }

    public static void main(String[] args) throws Exception {
        String page = Files.readString(Path.of("README.md"));
        Path room = Files.createTempDirectory("readme");
        try {
            uses(page, room);
            calls(page);
            classes(page);
            tests(page);
            commands(page, room);
            verdicts(room);
        } finally {
            remove(room);
        }
        end();
    }

    private static void remove(Path room) throws IOException {
        try (Stream<Path> inside = Files.walk(room)) {
            for (Path path : inside.sorted(Comparator.reverseOrder()).toList()) {
                Files.delete(path);
            }
        }
    }

    private static String partOf(String page, String heading) {
        int from = page.indexOf("\n## " + heading + "\n");
        int to = page.indexOf("\n## ", from + 1);
        due("a part " + heading, from >= 0, true);
        return from < 0 ? "" : page.substring(from, to < 0 ? page.length() : to);
    }

    private static Set<String> found(String text, String pattern) {
        Set<String> all = new TreeSet<>();
        Matcher matcher = Pattern.compile(pattern, Pattern.MULTILINE).matcher(text);
        while (matcher.find()) {
            all.add(matcher.group(1));
        }
        return all;
    }

    /** The blocks are compiled as one run, and each answer is held against the one behind its call. */
    private static void uses(String page, Path room) throws Exception {
        section("README, Use:");
        StringBuilder members = new StringBuilder();
        StringBuilder body = new StringBuilder();
        List<String> shown = new ArrayList<>();
        List<String> wanted = new ArrayList<>();
        Matcher block = Pattern.compile("^```java\n(.*?)^```", Pattern.MULTILINE | Pattern.DOTALL).matcher(page);
        while (block.find()) {
            if (block.group(1).startsWith("static ")) {
                members.append(block.group(1));
            } else {
                addCalls(block.group(1), body, shown, wanted);
            }
        }
        due("a first line", body.toString().startsWith(FIRST_LINE), true);
        List<?> answers = answersOf(members.toString(), body.toString(), room);
        due("number of answers", answers.size(), wanted.size());
        for (int i = 0; i < wanted.size() && i < answers.size(); i++) {
            due(shown.get(i), answers.get(i), wanted.get(i));
        }
        due("calls that are used", found(members + body.toString(), "court\\.(\\w+)\\("), faceNames());
    }

    private static void addCalls(String block, StringBuilder body, List<String> shown, List<String> wanted) {
        for (String line : block.split("\n")) {
            Matcher call = ANSWERED.matcher(line);
            boolean answered = call.matches();
            due("an answer in \"" + line + "\"", answered || line.equals(FIRST_LINE), true);
            if (answered) {
                body.append("ALL.add(String.valueOf(").append(call.group(1)).append("));\n");
                shown.add(call.group(1));
                wanted.add(call.group(2));
            } else {
                body.append(line).append('\n');
            }
        }
    }

    private static List<?> answersOf(String members, String body, Path room) throws Exception {
        Path source = room.resolve(USE + ".java");
        Files.writeString(source, "public final class " + USE + " {\n"
            + "private static final java.util.List<String> ALL = new java.util.ArrayList<>();\n" + members
            + "public static java.util.List<String> answers() {\n" + body + "return ALL;\n}\n}\n");
        String path = Path.of(System.getProperty("java.class.path")).toAbsolutePath().toString();
        int failed = exitOf(room, "javac", "-d", ".", "-cp", path, source.getFileName().toString());
        due("javac of what is shown", failed, 0);
        if (failed != 0) {
            return List.of();
        }
        try (URLClassLoader loader = new URLClassLoader(new URL[] {room.toUri().toURL()})) {
            return (List<?>) loader.loadClass(USE).getMethod("answers").invoke(null);
        }
    }

    private static Set<String> faceNames() {
        Set<String> names = new TreeSet<>();
        for (Method m : OwnHurt.class.getDeclaredMethods()) {
            if (Modifier.isPublic(m.getModifiers())) {
                names.add(m.getName());
            }
        }
        return names;
    }

    private static void calls(String page) {
        section("README, All calls:");
        Set<String> listed = new TreeSet<>();
        for (String call : found(partOf(page, "All calls"), "^\\| `(\\w+\\([^)]*\\))` \\|")) {
            String[] parts = call.split("[(), ]+");
            listed.add(parts[0] + " of " + (parts.length - 1));
        }
        Set<String> face = new TreeSet<>();
        for (Method m : OwnHurt.class.getDeclaredMethods()) {
            if (Modifier.isPublic(m.getModifiers())) {
                face.add(m.getName() + " of " + m.getParameterCount());
            }
        }
        due("calls that are listed", listed, face);
    }

    private static void classes(String page) {
        section("README, How it is made:");
        Set<String> inside = new TreeSet<>();
        for (Class<?> c : OwnHurt.class.getDeclaredClasses()) {
            inside.add(c.getSimpleName());
        }
        due("classes that are listed", found(partOf(page, "How it is made"), "^\\| `(\\w+)` \\|"), inside);
    }

    private static void tests(String page) {
        section("README, Tests:");
        Set<String> there = new TreeSet<>();
        Set<String> others = new TreeSet<>();
        for (File file : new File("src/test/java").listFiles()) {
            String name = file.getName().replace(".java", "");
            (name.endsWith("Test") ? there : others).add(name);
        }
        String part = partOf(page, "Tests");
        due("tests that are listed", found(part, "^- `(\\w+)`:"), there);
        for (String name : found(part, "`(\\w+Boundaries|\\w+Court)`")) {
            due("a file of " + name, others.contains(name), true);
        }
    }

    /** A directory like the project's own, so that what the commands make is left nowhere. */
    private static Path copyOfProject(Path room, String name, Path tests, Path shared) throws IOException {
        Path project = Files.createDirectories(room.resolve(name).resolve("main"));
        Files.createDirectories(project.resolve("src"));
        Files.createDirectories(project.resolve(".ci"));
        Files.copy(Path.of(".ci/run"), project.resolve(".ci/run"));
        project.resolve(".ci/run").toFile().setExecutable(true);
        Files.createSymbolicLink(project.resolve("src/main"), Path.of("src/main").toAbsolutePath());
        Files.createSymbolicLink(project.resolve("src/test"), tests.toAbsolutePath());
        Files.createSymbolicLink(project.resolveSibling("shared"), shared.toAbsolutePath());
        return project;
    }

    private static int exitOf(Path directory, String... command) throws Exception {
        Process process = new ProcessBuilder(command).directory(directory.toFile())
            .redirectErrorStream(true).redirectOutput(ProcessBuilder.Redirect.DISCARD).start();
        return process.waitFor();
    }

    private static void commands(String page, Path room) throws Exception {
        section("README, Tests:");
        List<String> lines = new ArrayList<>();
        Matcher line = Pattern.compile("^    (\\S.*)$", Pattern.MULTILINE).matcher(partOf(page, "Tests"));
        while (line.find()) {
            lines.add(line.group(1));
        }
        due("the first command", lines.isEmpty() ? "" : lines.get(0), ".ci/run");
        due(".ci/run can be run", Files.isExecutable(Path.of(".ci/run")), true);
        Path project = copyOfProject(room, "one", Path.of("src/test"), Path.of("../shared"));
        // The first one runs this test, so it can't be run by it.
        for (int i = 1; i < lines.size(); i++) {
            due(lines.get(i), exitOf(project, "bash", "-c", lines.get(i)), 0);
        }
    }

    private static void verdicts(Path room) throws Exception {
        section("README, Tests:");
        Path good = Files.createDirectories(room.resolve("good"));
        Path bad = Files.createDirectories(room.resolve("bad"));
        Path empty = Files.createDirectories(room.resolve("empty/tests"));
        writeTest(good, "java", 0);
        writeTest(good, "tests", 0);
        writeTest(bad, "java", 1);
        writeTest(bad, "tests", 1);
        verdict(room, "all", good, good, 0);
        verdict(room, "own", bad, good, 1);
        verdict(room, "theirs", good, bad, 1);
        verdict(room, "none", good, empty.getParent(), 1);
    }

    private static void writeTest(Path place, String directory, int exit) throws IOException {
        String name = directory.equals("java") ? "MadeTest" : "MadeRuns";
        Path file = Files.createDirectories(place.resolve(directory)).resolve(name + ".java");
        Files.writeString(file, "public final class " + name + " {\n    private " + name + "() { }\n\n"
            + "    public static void main(String[] args) {\n        System.exit(new OwnHurt().count(0) - 1 + " + exit
            + ");\n    }\n}\n");
    }

    private static void verdict(Path room, String name, Path own, Path shared, int exit) throws Exception {
        due(".ci/run of " + name, exitOf(copyOfProject(room, name, own, shared), "bash", "-c", ".ci/run"), exit);
    }
}
