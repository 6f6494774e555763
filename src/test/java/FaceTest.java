import java.lang.reflect.Constructor;
import java.lang.reflect.Field;
import java.lang.reflect.Method;
import java.lang.reflect.Modifier;
import java.nio.file.Files;
import java.nio.file.Path;
import java.util.ArrayList;
import java.util.List;
import java.util.Set;
import java.util.TreeSet;
import java.util.regex.Matcher;
import java.util.regex.Pattern;

/** The public face is the document's and no more, and the source keeps to the rules that can be seen in it. */
public final class FaceTest {
    private static final String[] FACE = {
        "int facts(int)", "boolean truth(int)", "int person(int)", "boolean knows(int, int)",
        "boolean harm(int, int, int, int)", "int feed(int, int, int, int, int)", "int law(int)",
        "int would(int, int, int)", "int ask(int, int)", "int half(int, int, int)", "boolean back()",
        "int anew()", "int left(int)", "boolean isLeft(int)", "int proved(int)", "int tells(int, int, int)",
        "int paid(int)", "int sentence(int)", "int open()", "int fewest(int, int)", "int ahead(int, int)",
        "int alike(int, int)", "int lesser(int, int)", "int best(int, int)", "int judge(int, int)",
        "boolean seed(int)", "int draw(int)", "int check(int)", "int count(int)",
    };
    private static final Path SOURCE = Path.of("src/main/java/OwnHurt.java");
    private static final Path DOCUMENT = Path.of("../shared/DOC.md");
    private static final int MOST_CLASSES = 12;
    private static final int MOST_FIELDS = 20;
    private static final int MOST_LINES = 60;
    private static int wrong = 0;

    private FaceTest() { }

    private static void must(boolean right, String what) {
        if (!right) {
            wrong++;
            System.out.println("not so: " + what);
        }
    }

    public static void main(String[] args) throws Exception {
        if (Files.exists(DOCUMENT)) {
            document(Files.readString(DOCUMENT));
        }
        face();
        inside();
        source(Files.readAllLines(SOURCE));
        System.out.println(wrong == 0 ? "the face and the rules hold" : wrong + " rules are broken");
        System.exit(wrong == 0 ? 0 : 1);
    }

    /** The list above is the document's, and so is the constant. */
    private static void document(String text) {
        int from = text.indexOf("public final class OwnHurt {");
        int to = text.indexOf("```", Math.max(0, from));
        must(from >= 0 && to > from, "the document shows a face");
        String shown = text.substring(Math.max(0, from), Math.max(from, to));
        Matcher method = Pattern.compile("public (int|boolean) (\\w+)\\((.*?)\\);").matcher(shown);
        Set<String> face = new TreeSet<>();
        while (method.find()) {
            face.add(method.group(1) + " " + method.group(2) + "(" + method.group(3).replaceAll("(\\w+) \\w+", "$1") + ")");
        }
        must(face.equals(new TreeSet<>(List.of(FACE))), "the document's face is " + face);
        must(shown.contains("public static final int NONE = " + OwnHurt.NONE + ";"), "NONE is the document's");
        must(shown.lines().filter(line -> line.contains("public ")).count() == FACE.length + 3L, "no more is shown");
    }

    private static String described(Method m) {
        List<String> types = new ArrayList<>();
        for (Class<?> type : m.getParameterTypes()) {
            types.add(type.getSimpleName());
        }
        return m.getReturnType().getSimpleName() + " " + m.getName() + "(" + String.join(", ", types) + ")";
    }

    private static void face() {
        Set<String> shown = new TreeSet<>();
        Set<String> publicNames = new TreeSet<>();
        Set<String> privateNames = new TreeSet<>();
        for (Method m : OwnHurt.class.getDeclaredMethods()) {
            boolean isPrivate = Modifier.isPrivate(m.getModifiers());
            (isPrivate ? privateNames : publicNames).add(m.getName());
            if (!isPrivate) {
                shown.add(described(m));
                must(Modifier.isPublic(m.getModifiers()), "public " + m);
            }
        }
        must(shown.equals(new TreeSet<>(List.of(FACE))), "the methods shown are " + shown);
        privateNames.retainAll(publicNames);
        must(privateNames.isEmpty(), "no private method with a public name, but " + privateNames);
        for (Field f : OwnHurt.class.getDeclaredFields()) {
            must(Modifier.isPrivate(f.getModifiers()) || f.getName().equals("NONE"), "private " + f);
        }
        Constructor<?>[] constructors = OwnHurt.class.getDeclaredConstructors();
        must(constructors.length == 1 && Modifier.isPublic(constructors[0].getModifiers()), "one constructor");
        must(Modifier.isFinal(OwnHurt.class.getModifiers()), "the class is final");
    }

    private static void inside() {
        Class<?>[] inner = OwnHurt.class.getDeclaredClasses();
        must(inner.length < MOST_CLASSES, "few classes, not " + inner.length);
        for (Class<?> c : inner) {
            must(Modifier.isStatic(c.getModifiers()), "static " + c);
            int fields = 0;
            for (Field f : c.getDeclaredFields()) {
                boolean isStatic = Modifier.isStatic(f.getModifiers());
                must(!isStatic || Modifier.isFinal(f.getModifiers()), "final " + f);
                fields += isStatic ? 0 : 1;
            }
            must(fields <= MOST_FIELDS, "few fields in " + c);
            for (Method m : c.getDeclaredMethods()) {
                must(m.getParameterCount() <= 7, "few parameters in " + m);
            }
        }
    }

    private static void source(List<String> lines) {
        Pattern banned = Pattern.compile(
            "\\b(throw|throws|try|catch|synchronized|assert|import|package|double|float)\\b|->|::|Exact\\b|while \\(true\\)");
        int start = 0;
        for (int i = 0; i < lines.size(); i++) {
            String line = lines.get(i);
            Matcher found = banned.matcher(line.replaceAll("//.*|^ *\\*.*|/\\*\\*.*", ""));
            must(!found.find(), "line " + (i + 1) + " keeps to the language: " + line);
            must(line.length() <= 120, "line " + (i + 1) + " is short");
            boolean makes = line.matches(" *[^*/]*\\bnew \\w.*");
            must(!makes || line.matches(" {4,8}private final .*"), "line " + (i + 1) + " makes it once, not by each call");
            must(line.chars().allMatch(c -> c < 128), "line " + (i + 1) + " is plain");
            boolean opens = line.matches(" +.*\\) \\{") && !line.matches(" +(if|for|while|switch|}).*");
            start = opens ? i : start;
            must(!line.matches(" {4,8}}") || i - start <= MOST_LINES, "the method at line " + (start + 1) + " is short");
        }
    }
}
