import java.io.IOException;
import java.lang.reflect.Method;
import java.lang.reflect.Modifier;
import java.net.URL;
import java.net.URLClassLoader;
import java.nio.file.DirectoryStream;
import java.nio.file.Files;
import java.nio.file.Path;
import java.util.ArrayList;
import java.util.List;
import java.util.Set;
import java.util.TreeSet;
import java.util.regex.Matcher;
import java.util.regex.Pattern;
import java.util.stream.Stream;
import javax.tools.JavaCompiler;
import javax.tools.ToolProvider;

/** README.md: the calls that it shows answer what it says; it shows each method of the face and names each test. */
public final class ReadmeTest {
    private static final Pattern BLOCK = Pattern.compile("^```java\\n(.*?)^```$", Pattern.MULTILINE | Pattern.DOTALL);
    private static final Pattern TOLD = Pattern.compile(
            "^(x\\.(\\w+)\\(.*\\)); +// (NONE|true|false|-?\\d+|throws \\w+)(?:: .*)?$");
    // Calls without an answer, and those that another method of the page makes.
    private static final Pattern SILENT = Pattern.compile("^(?:x\\.(image)\\(\\);|tell\\(x, .*|[ ]+.*|AllSawIt x = .*)$");
    private static final Pattern TEST = Pattern.compile("\\b\\w+Test\\b");

    private final List<String> calls = new ArrayList<>();
    private final List<String> due = new ArrayList<>();
    private final Set<String> shown = new TreeSet<>();
    private final StringBuilder members = new StringBuilder();
    private final StringBuilder body = new StringBuilder();

    private ReadmeTest() {
    }

    public static void main(String[] args) throws IOException, ReflectiveOperationException {
        String page = Files.readString(Path.of("README.md"));
        ReadmeTest readme = new ReadmeTest();
        readme.read(page);
        readme.hold();
        readme.face();
        tests(page);
        Check.end();
    }

    private void read(String page) {
        Check.part("the page");
        Matcher blocks = BLOCK.matcher(page);
        while (blocks.find()) {
            String block = blocks.group(1);
            if (block.startsWith("static ")) {
                members.append(block);
            } else {
                block.lines().forEach(this::line);
            }
        }
        Check.yes(calls.size() + " calls are shown", calls.size() > 43);
    }

    private void line(String line) {
        Matcher told = TOLD.matcher(line);
        if (told.matches()) {
            calls.add(told.group(1));
            shown.add(told.group(2));
            due.add(told.group(3).equals("NONE") ? "-1" : told.group(3));
            body.append("try { got.add(String.valueOf(").append(told.group(1)).append(")); }\n")
                    .append("catch (RuntimeException e) { got.add(\"throws \" + e.getClass().getSimpleName()); }\n");
            return;
        }
        Matcher silent = SILENT.matcher(line);
        boolean plain = silent.matches();
        Check.yes("an answer is told behind " + line, plain);
        if (plain && silent.group(1) != null) {
            shown.add(silent.group(1));
        }
        body.append(line).append('\n');
    }

    /** Compiles what the page shows, runs it, and holds each answer against the one that is told. */
    private void hold() throws IOException, ReflectiveOperationException {
        Path out = Files.createTempDirectory("readme");
        try {
            Path source = out.resolve("ReadmeCalls.java");
            Files.writeString(source, "public final class ReadmeCalls {\n" + members
                    + "public static java.util.List<String> run() {\n"
                    + "java.util.List<String> got = new java.util.ArrayList<>();\n" + body + "return got;\n}\n}\n");
            JavaCompiler compiler = ToolProvider.getSystemJavaCompiler();
            boolean made = compiler != null && compiler.run(null, null, null, "-cp",
                    System.getProperty("java.class.path"), "-d", out.toString(), source.toString()) == 0;
            Check.yes("what the page shows can be compiled", made);
            if (made) {
                compare(run(out));
            }
        } finally {
            remove(out);
        }
    }

    private static List<?> run(Path out) throws IOException, ReflectiveOperationException {
        try (URLClassLoader loader = new URLClassLoader(new URL[] {out.toUri().toURL()})) {
            return (List<?>) loader.loadClass("ReadmeCalls").getMethod("run").invoke(null);
        }
    }

    private void compare(List<?> got) {
        Check.due("answers", got.size(), due.size());
        for (int i = 0; i < got.size() && i < due.size(); i++) {
            Check.same(calls.get(i) + ", call " + (i + 1), got.get(i).toString(), due.get(i));
        }
    }

    private static void remove(Path out) throws IOException {
        try (Stream<Path> files = Files.list(out)) {
            for (Path file : files.toList()) {
                Files.delete(file);
            }
        }
        Files.delete(out);
    }

    private void face() {
        Check.part("the face");
        // They are shown by the helper, too, but an answer is told for each.
        for (Method method : AllSawIt.class.getDeclaredMethods()) {
            if (Modifier.isPublic(method.getModifiers())) {
                Check.yes(method.getName() + " is shown", shown.contains(method.getName()));
            }
        }
    }

    private static void tests(String page) throws IOException {
        Check.part("the tests");
        Set<String> named = new TreeSet<>();
        Matcher names = TEST.matcher(page);
        while (names.find()) {
            named.add(names.group());
        }
        Set<String> there = new TreeSet<>();
        try (DirectoryStream<Path> files = Files.newDirectoryStream(Path.of("src/test/java"), "*Test.java")) {
            for (Path file : files) {
                there.add(file.getFileName().toString().replace(".java", ""));
            }
        }
        Check.same("those that the page names", named.toString(), there.toString());
    }
}
