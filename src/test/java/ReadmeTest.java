import java.io.IOException;
import java.net.URL;
import java.net.URLClassLoader;
import java.nio.charset.StandardCharsets;
import java.nio.file.Files;
import java.nio.file.Path;
import java.util.ArrayList;
import java.util.List;
import java.util.Set;
import java.util.TreeSet;
import java.util.concurrent.Callable;
import java.util.regex.Matcher;
import java.util.regex.Pattern;
import java.util.stream.Stream;
import javax.tools.JavaCompiler;
import javax.tools.ToolProvider;

/**
 * README.md against the class: its Java is compiled and run, and each call that it shows must have the answer
 * behind it; it must name each call of the face; and the way it tells to run the tests must run them all.
 */
public final class ReadmeTest {
    private static final Path README = Path.of("README.md");
    private static final Path TESTS = Path.of("src/test/java");
    private static final Path SCRIPT = Path.of(".ci/run");
    private static final Pattern BLOCK = Pattern.compile("(?ms)^```java\n(.*?)^```$");
    private static final Pattern SHOWN = Pattern.compile("^(.*);\\s*// (throws \\w+|NONE|true|false|-?\\d+)(:.*)?$");
    private static final int FEWEST_CALLS = 40;
    private static int wrong = 0;
    private static int answers = 0;

    public static void main(String[] args) throws Exception {
        String readme = Files.readString(README, StandardCharsets.UTF_8);
        runExamples(readme);
        namesEachCall(readme);
        namesEachTest(readme);
        System.out.println("readme: " + answers + " answers, " + wrong + " wrong");
        if (wrong != 0) {
            System.exit(1);
        }
    }

    private static void fails(String what) {
        wrong++;
        System.out.println("README.md: " + what);
    }

    /** Called by the program that is made of README.md: other class loaders see what is public alone. */
    public static void due(String call, String shown, Callable<Object> asked) throws Exception {
        answers++;
        String got;
        try {
            got = String.valueOf(asked.call());
        } catch (RuntimeException e) {
            got = "throws " + e.getClass().getSimpleName();
        }
        String want = shown.equals("NONE") ? String.valueOf(LockLetters.NONE) : shown;
        if (!got.equals(want)) {
            fails(call + " answers " + got + ", shown is " + shown);
        }
    }

    private static void runExamples(String readme) throws Exception {
        String program = programOf(readme);
        Path place = Files.createTempDirectory("readme");
        Path source = place.resolve("ReadmeExamples.java");
        Files.writeString(source, program, StandardCharsets.UTF_8);
        JavaCompiler compiler = ToolProvider.getSystemJavaCompiler();
        String classes = System.getProperty("java.class.path");
        boolean compiled = compiler != null && compiler.run(null, null, null, "-cp", classes, "-d", place.toString(), source.toString()) == 0;
        if (compiled) {
            try (URLClassLoader loader = new URLClassLoader(new URL[] {place.toUri().toURL()})) {
                loader.loadClass("ReadmeExamples").getMethod("run").invoke(null);
            }
        } else {
            fails("its Java does not compile");
        }
        for (String name : List.of("ReadmeExamples.java", "ReadmeExamples.class", "")) {
            Files.deleteIfExists(place.resolve(name));
        }
        if (answers < FEWEST_CALLS) {
            fails("shows " + answers + " answers alone");
        }
    }

    /** Blocks that begin with 'static' are methods; the others are one run of statements. */
    private static String programOf(String readme) {
        StringBuilder methods = new StringBuilder();
        StringBuilder statements = new StringBuilder();
        Matcher block = BLOCK.matcher(readme);
        while (block.find()) {
            if (block.group(1).startsWith("static ")) {
                methods.append(block.group(1));
            } else {
                for (String line : block.group(1).split("\n")) {
                    statements.append(statementOf(line.trim())).append('\n');
                }
            }
        }
        return "public class ReadmeExamples {\nstatic LockLetters x;\n" + methods
            + "public static void run() throws Exception {\n" + statements + "}\n}\n";
    }

    private static String statementOf(String line) {
        Matcher shown = SHOWN.matcher(line);
        if (shown.matches()) {
            String call = shown.group(1);
            return "ReadmeTest.due(\"" + call.replace("\"", "\\\"") + "\", \"" + shown.group(2) + "\", () -> " + call + ");";
        }
        if (line.startsWith("x.")) {
            fails("shows no answer of " + line);
        }
        return line.replaceFirst("^LockLetters x = ", "x = ");
    }

    private static void namesEachCall(String readme) {
        for (java.lang.reflect.Method method : LockLetters.class.getDeclaredMethods()) {
            boolean face = java.lang.reflect.Modifier.isPublic(method.getModifiers());
            if (face && !readme.contains("`" + method.getName() + "(")) {
                fails("does not tell of " + method.getName() + "()");
            }
        }
    }

    /** .ci/run takes the files of src/test/java that are named ..Test.java: all that can be run must be among them. */
    private static void namesEachTest(String readme) throws IOException {
        if (!Files.isExecutable(SCRIPT) || !readme.contains("\n.ci/run\n")) {
            fails("does not tell to run " + SCRIPT);
        }
        for (Path file : sourcesUnder(TESTS)) {
            String name = file.getFileName().toString();
            boolean runs = Files.readString(file, StandardCharsets.UTF_8).contains("public static void main(");
            if (runs != name.endsWith("Test.java") || !file.getParent().equals(TESTS)) {
                fails(".ci/run does not run " + file);
            }
            if (!readme.contains("`" + name.replace(".java", "") + "`")) {
                fails("does not name " + name);
            }
        }
        Set<String> there = new TreeSet<>();
        for (Path file : sourcesUnder(TESTS)) {
            there.add(file.getFileName().toString().replace(".java", ""));
        }
        Matcher named = Pattern.compile("`(\\w+(?:Test|Sentences))`").matcher(readme);
        while (named.find()) {
            if (!there.contains(named.group(1))) {
                fails("names " + named.group(1) + ", which is not there");
            }
        }
    }

    private static List<Path> sourcesUnder(Path place) throws IOException {
        try (Stream<Path> files = Files.walk(place)) {
            return new ArrayList<>(files.filter(file -> file.toString().endsWith(".java")).sorted().toList());
        }
    }
}
