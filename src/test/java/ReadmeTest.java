import java.io.IOException;
import java.lang.reflect.Field;
import java.lang.reflect.Method;
import java.lang.reflect.Modifier;
import java.net.URL;
import java.net.URLClassLoader;
import java.nio.file.Files;
import java.nio.file.Path;
import java.util.ArrayList;
import java.util.Comparator;
import java.util.List;
import java.util.Set;
import java.util.TreeSet;
import java.util.function.BiConsumer;
import java.util.regex.Matcher;
import java.util.regex.Pattern;
import java.util.stream.Stream;
import javax.tools.ToolProvider;

/** What README.md shows as calls with their answers holds for the class, and its tables name the whole face and every test. */
public final class ReadmeTest {
    private static final Pattern BLOCK = Pattern.compile("^```java\n(.*?)^```", Pattern.MULTILINE | Pattern.DOTALL);
    /** A call, and behind two strokes its answer: a number, a constant's name or a text. */
    private static final Pattern SHOWN = Pattern.compile("(\\S.*\\));\\s*// (-?\\d+|[A-Z]+|\"(?:[^\"\\\\]|\\\\.)*\")(:.*)?");
    private static final Pattern SIGNATURE = Pattern.compile("^\\| `(\\w+\\([^)]*\\))` \\|", Pattern.MULTILINE);
    private static final Pattern REFUSED = Pattern.compile("^\\| `(\\w+)\\([^)]*\\)` \\|.*\\| ([^|]*) \\|$", Pattern.MULTILINE);
    private static final Pattern REFUSAL = Pattern.compile("^\\| `([A-Z]+)` \\| (-\\d+) \\|", Pattern.MULTILINE);
    private static final Pattern TEST = Pattern.compile("`(\\w+Test)`");
    private static final int MOST_CALLS = 512;

    public static void main(String[] args) throws Exception {
        String readme = Files.readString(Path.of("README.md"));
        String source = Files.readString(Path.of("src/main/java/SealedTokens.java"));
        examples(readme);
        face(readme, source);
        constants(readme);
        refusals(readme);
        tests(readme);
        Check.end();
    }

    // ---- the face

    private static Set<String> found(Pattern pattern, String text) {
        Set<String> all = new TreeSet<>();
        Matcher m = pattern.matcher(text);
        while (m.find()) {
            Check.that(m.group(1) + " stands in README.md twice", all.add(m.group(1)) || pattern == TEST);
        }
        return all;
    }

    private static void face(String readme, String source) {
        Set<String> due = new TreeSet<>();
        Matcher m = Pattern.compile("^    public int (\\w+\\([^)]*\\)) \\{", Pattern.MULTILINE).matcher(source);
        while (m.find()) {
            due.add(m.group(1));
        }
        int many = 0;
        for (Method method : SealedTokens.class.getDeclaredMethods()) {
            many += Modifier.isPublic(method.getModifiers()) ? 1 : 0;
        }
        Check.same("public methods", due.size(), many);
        Check.same("public methods", many, 33);
        Check.that("README.md names " + found(SIGNATURE, readme) + ", due are " + due, found(SIGNATURE, readme).equals(due));
    }

    private static void constants(String readme) throws Exception {
        Set<String> due = new TreeSet<>();
        for (Field field : SealedTokens.class.getDeclaredFields()) {
            if (Modifier.isPublic(field.getModifiers())) {
                due.add(field.getName());
            }
        }
        Check.that("README.md names the constants " + found(REFUSAL, readme), found(REFUSAL, readme).equals(due));
        Matcher m = REFUSAL.matcher(readme);
        while (m.find()) {
            Check.same("README.md: " + m.group(1), Integer.parseInt(m.group(2)), SealedTokens.class.getField(m.group(1)).getInt(null));
        }
    }

    /** The last column names what SecondHouseTest has seen; that a value is too large to be written can't come. */
    private static void refusals(String readme) throws Exception {
        int rows = 0;
        Matcher m = REFUSED.matcher(readme);
        while (m.find()) {
            rows++;
            Set<Integer> due = new TreeSet<>();
            for (int answer : SecondHouseTest.DUE.get(m.group(1))) {
                due.add(Math.max(answer, -100));
            }
            if (m.group(1).equals("write")) {
                due.add(SealedTokens.LARGE);
            }
            due.remove(0);
            Check.that("README.md: " + m.group(1) + " refuses by " + m.group(2) + ", due are " + due, named(m.group(2)).equals(due));
        }
        Check.same("rows with refusals", rows, 33);
    }

    private static Set<Integer> named(String refusals) throws Exception {
        Set<Integer> all = new TreeSet<>();
        for (String name : refusals.split(", ")) {
            if (name.equals("-11 .. -17")) {
                all.addAll(List.of(-11, -12, -13, -14, -15, -16, -17));
            } else {
                all.add(name.equals("-100 ..") ? -100 : SealedTokens.class.getField(name).getInt(null));
            }
        }
        return all;
    }

    private static void tests(String readme) throws IOException {
        Set<String> due = new TreeSet<>();
        try (Stream<Path> files = Files.list(Path.of("src/test/java"))) {
            files.map(f -> f.getFileName().toString()).filter(f -> f.endsWith("Test.java")).forEach(f -> due.add(f.replace(".java", "")));
        }
        Check.that("README.md names the tests " + found(TEST, readme) + ", there are " + due, found(TEST, readme).equals(due));
    }

    // ---- the examples

    private static void examples(String readme) throws Exception {
        StringBuilder code = new StringBuilder("public final class Examples {\n"
            + "    public static java.util.function.BiConsumer<String, Boolean> to;\n"
            + "    public static int calls;\n"
            + "    static SealedTokens counted(SealedTokens x) { calls++; return x; }\n"
            + "    static void due(String what, Object got, Object due) { to.accept(what + \" answered \" + got, got.equals(due)); }\n");
        int many = 0;
        Matcher m = BLOCK.matcher(readme);
        while (m.find()) {
            if (m.group(1).startsWith("static ")) {
                code.append(m.group(1));
            } else {
                code.append("    public static void example").append(many).append("() {\n").append(asked(m.group(1))).append("    }\n");
                many++;
            }
        }
        Check.that("README.md shows " + many + " examples", many >= 4);
        run(code.append("}\n").toString().replaceAll("\\bhouse\\.(\\w+)\\(", "counted(house).$1("), many);
    }

    /** Every line but that which makes the object is a call with its answer. */
    private static String asked(String block) {
        StringBuilder code = new StringBuilder();
        for (String line : block.split("\n")) {
            Matcher m = SHOWN.matcher(line);
            if (line.equals("SealedTokens house = new SealedTokens();")) {
                code.append(line).append('\n');
            } else if (m.matches()) {
                String due = Character.isLetter(m.group(2).charAt(0)) ? "SealedTokens." + m.group(2) : m.group(2);
                code.append("due(\"").append(m.group(1).replace("\\", "\\\\").replace("\"", "\\\"")).append("\", ").append(m.group(1)).append(", ").append(due).append(");\n");
            } else {
                Check.that("no answer is told in: " + line, false);
            }
        }
        return code.toString();
    }

    private static void run(String code, int many) throws Exception {
        Path build = Files.createTempDirectory("readme");
        try {
            Path file = Files.writeString(build.resolve("Examples.java"), code);
            int failed = ToolProvider.getSystemJavaCompiler().run(null, null, null, "-cp", System.getProperty("java.class.path"), "-d", build.toString(), file.toString());
            Check.same("compiling the examples", failed, 0);
            if (failed == 0) {
                runCompiled(build, many);
            }
        } finally {
            remove(build);
        }
    }

    private static void runCompiled(Path build, int many) throws Exception {
        try (URLClassLoader loader = new URLClassLoader(new URL[] {build.toUri().toURL()}, ReadmeTest.class.getClassLoader())) {
            Class<?> examples = loader.loadClass("Examples");
            BiConsumer<String, Boolean> to = (what, holds) -> Check.that("README.md: " + what, holds);
            examples.getField("to").set(null, to);
            for (int i = 0; i < many; i++) {
                examples.getField("calls").setInt(null, 0);
                examples.getMethod("example" + i).invoke(null);
                int calls = examples.getField("calls").getInt(null);
                Check.that("example " + i + " makes " + calls + " calls of one object", calls <= MOST_CALLS);
            }
            full(examples);
        }
    }

    /** The helpers of README.md serve rows of any size. */
    private static void full(Class<?> examples) throws Exception {
        Method put = examples.getDeclaredMethod("put", SealedTokens.class, int.class, byte[].class);
        put.setAccessible(true);
        for (int many : new int[] {0, 1, 19, 20, 21, 40, 8179, 8180, 8181, 8191, 8192}) {
            House h = new House();
            byte[] bytes = Keys.bytes(many, many);
            Check.same("put of README.md", (Integer) put.invoke(null, h.x, 0, bytes), many);
            h.x.hash(256, 0);
            Check.same("row by put of README.md", h.out(), Maker.hash(bytes));
        }
    }

    private static void remove(Path folder) throws IOException {
        List<Path> all = new ArrayList<>();
        try (Stream<Path> files = Files.walk(folder)) {
            files.sorted(Comparator.reverseOrder()).forEach(all::add);
        }
        for (Path file : all) {
            Files.delete(file);
        }
    }
}
