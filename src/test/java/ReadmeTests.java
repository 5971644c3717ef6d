import java.io.ByteArrayOutputStream;
import java.io.IOException;
import java.io.PrintStream;
import java.net.URL;
import java.net.URLClassLoader;
import java.nio.charset.StandardCharsets;
import java.nio.file.Files;
import java.nio.file.Path;
import java.util.ArrayList;
import java.util.List;
import java.util.regex.Matcher;
import java.util.regex.Pattern;
import java.util.stream.Stream;
import javax.tools.JavaCompiler;
import javax.tools.ToolProvider;

/** README.md: its programs print what it says that they print, and it names each call of the document, each test and each of its files. */
public final class ReadmeTests {
    private static int wrong = 0;

    private static void must(boolean so, String what) {
        if (!so) {
            wrong++;
            System.out.println("not so: " + what);
        }
    }

    private static List<String> all(String pattern, String text) {
        List<String> found = new ArrayList<>();
        Matcher m = Pattern.compile(pattern).matcher(text);
        while (m.find()) {
            found.add(m.group(1));
        }
        return found;
    }

    /** What a program prints, line by line. */
    private static List<String> printed(String name, String program) throws Exception {
        Path out = Files.createTempDirectory("readme");
        Path file = Files.writeString(out.resolve(name + ".java"), program);
        JavaCompiler javac = ToolProvider.getSystemJavaCompiler();
        int code = javac.run(null, null, null, "-cp", System.getProperty("java.class.path"), "-d", out.toString(), file.toString());
        must(code == 0, name + " compiles");
        ByteArrayOutputStream lines = new ByteArrayOutputStream();
        PrintStream before = System.out;
        try (URLClassLoader loader = new URLClassLoader(new URL[] {out.toUri().toURL()}, ReadmeTests.class.getClassLoader())) {
            if (code == 0) {
                System.setOut(new PrintStream(lines, true, StandardCharsets.UTF_8));
                loader.loadClass(name).getMethod("main", String[].class).invoke(null, (Object) new String[0]);
            }
        } finally {
            System.setOut(before);
            remove(out);
        }
        return lines.toString(StandardCharsets.UTF_8).lines().toList();
    }

    private static void remove(Path folder) throws IOException {
        try (Stream<Path> files = Files.list(folder)) {
            for (Path file : files.toList()) {
                Files.delete(file);
            }
        }
        Files.delete(folder);
    }

    private static void programs(String readme) throws Exception {
        List<String> programs = all("(?s)```java\n(.*?)```", readme);
        must(programs.size() == 2, "there are two programs");
        for (String program : programs) {
            String name = all("public class (\\w+)", program).get(0);
            List<String> told = all("System\\.out\\.println\\(.*\\);\\s+// (-?\\d+)\\b", program);
            must(told.size() == all("System\\.out\\.(println)", program).size(), "each line that " + name + " prints is told");
            List<String> printed = printed(name, program);
            must(told.equals(printed), name + " prints " + told + "; it printed " + printed);
        }
    }

    private static void calls(String readme, Path doc) throws IOException {
        if (!Files.exists(doc)) {
            System.out.println(doc + " is not there: the calls are not looked up");
            return;
        }
        List<String> calls = all("(?m)^(`(?:int|long) \\w+\\([^`]*\\)`): ", Files.readString(doc));
        must(calls.size() == 36, "the document has 36 calls: " + calls.size());
        for (String call : calls) {
            must(all("(?m)^\\| (" + Pattern.quote(call) + ") \\| ", readme).size() == 1, "a row tells of " + call);
        }
    }

    private static void tests(String readme) throws IOException {
        try (Stream<Path> files = Files.list(Path.of("src/test/java"))) {
            for (Path file : files.toList()) {
                String name = file.getFileName().toString().replace(".java", "");
                must(!name.endsWith("Tests") || readme.contains("- `" + name + "`: "), name + " is told of");
            }
        }
        for (String named : all("((?:\\.\\./shared|src|\\.ci)/[\\w./]*\\w)", readme)) {
            must(Files.exists(Path.of(named)) || named.startsWith("../shared") && !Files.exists(Path.of("../shared")), named + " is there");
        }
    }

    public static void main(String[] args) throws Exception {
        String readme = Files.readString(Path.of("README.md"));
        programs(readme);
        calls(readme, Path.of("../shared/DOC.md"));
        tests(readme);
        System.out.println(wrong == 0 ? "ReadmeTests: the page holds" : "ReadmeTests: " + wrong + " not so");
        if (wrong != 0) {
            System.exit(1);
        }
    }
}
