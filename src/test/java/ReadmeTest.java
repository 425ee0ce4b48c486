import java.io.IOException;
import java.lang.reflect.Method;
import java.lang.reflect.Modifier;
import java.net.URL;
import java.net.URLClassLoader;
import java.nio.file.Files;
import java.nio.file.Path;
import java.util.ArrayList;
import java.util.Comparator;
import java.util.List;
import java.util.regex.Matcher;
import java.util.regex.Pattern;
import java.util.stream.Collectors;
import java.util.stream.Stream;
import javax.tools.ToolProvider;

/** README.md: its examples compile and answer as it says; it names each call and each test. */
public final class ReadmeTest {
    private static final Path README = Path.of("README.md"), TESTS = Path.of("src/test/java");
    private static final Pattern BLOCK = Pattern.compile("(?s)```java\n(.*?)```");
    private static final Pattern CALL = Pattern.compile("(x\\.\\w+\\(.*\\)); +// (-?\\d+|[A-Z]+)(: .*)?");
    private static final int GROUPS = 5;

    private static final Due due = new Due();

    public static void main(String[] args) throws Exception {
        String readme = Files.readString(README);
        namesAll(readme);
        Matcher block = BLOCK.matcher(readme);
        Path folder = Files.createTempDirectory("readme");
        int blocks = 0;
        while (block.find()) {
            String name = "Example" + blocks++;
            Files.writeString(folder.resolve(name + ".java"), program(name, block.group(1)));
            run(folder, name);
        }
        due.is("examples in README.md", blocks, GROUPS);
        remove(folder);
        due.end();
    }

    private static void namesAll(String readme) throws IOException {
        for (Method method : HiddenWords.class.getDeclaredMethods()) {
            boolean inFace = Modifier.isPublic(method.getModifiers());
            if (inFace) due.holds("README.md names " + method.getName(), readme.contains("`" + method.getName() + "`"));
        }
        List<String> tests;
        try (Stream<Path> all = Files.list(TESTS)) {
            tests = all.map(file -> file.getFileName().toString().replace(".java", ""))
                    .filter(name -> name.endsWith("Test")).collect(Collectors.toList());
        }
        for (String test : tests) due.holds("README.md tells of " + test, readme.contains("| `" + test + "` |"));
        Matcher told = Pattern.compile("\\| `(\\w+Test)` \\|").matcher(readme);
        while (told.find()) due.holds(told.group(1) + " of README.md is there", tests.contains(told.group(1)));
    }

    /** A class with the example in it; each call whose answer is told adds that and what it got. */
    private static String program(String name, String example) {
        StringBuilder all = new StringBuilder("public class " + name + " {\n");
        all.append("public static void run(java.util.List<String> calls, java.util.List<Long> answers) {\n");
        for (String line : example.split("\n")) {
            Matcher call = CALL.matcher(line);
            if (!call.matches()) {
                due.holds("'" + line + "' tells its answer", !line.startsWith("x."));
                all.append(line).append("\n");
                continue;
            }
            String want = call.group(2);
            if (Character.isLetter(want.charAt(0))) want = "HiddenWords." + want;
            all.append("calls.add(\"").append(call.group(1).replace("\"", "\\\"")).append("\");\n");
            all.append("answers.add((long) ").append(call.group(1)).append(");\n");
            all.append("answers.add((long) ").append(want).append(");\n");
        }
        return all.append("}\n}\n").toString();
    }

    private static void run(Path folder, String name) throws Exception {
        String path = System.getProperty("java.class.path");
        String source = folder.resolve(name + ".java").toString();
        int failed = ToolProvider.getSystemJavaCompiler().run(null, null, null, "-cp", path, "-d", folder.toString(), source);
        due.is("README.md, " + name + " compiles", failed, 0);
        if (failed != 0) return;
        List<String> calls = new ArrayList<>();
        List<Long> answers = new ArrayList<>();
        try (URLClassLoader loader = new URLClassLoader(new URL[] {folder.toUri().toURL()})) {
            loader.loadClass(name).getMethod("run", List.class, List.class).invoke(null, calls, answers);
        }
        due.holds("README.md, " + name + " tells answers", !calls.isEmpty());
        for (int i = 0; i < calls.size(); i++) {
            due.is("README.md, " + name + ", " + calls.get(i), answers.get(2 * i), answers.get(2 * i + 1));
        }
    }

    private static void remove(Path folder) throws IOException {
        try (Stream<Path> all = Files.walk(folder)) {
            for (Path file : all.sorted(Comparator.reverseOrder()).collect(Collectors.toList())) Files.delete(file);
        }
    }
}
