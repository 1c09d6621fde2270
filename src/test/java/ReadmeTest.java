import java.io.File;
import java.net.URL;
import java.net.URLClassLoader;
import java.nio.file.Files;
import java.nio.file.Path;
import java.lang.reflect.Method;
import java.lang.reflect.Modifier;
import java.util.ArrayList;
import java.util.List;
import java.util.regex.Matcher;
import java.util.regex.Pattern;
import javax.tools.JavaCompiler;
import javax.tools.ToolProvider;

/** What README.md shows as a use is so when it is run; it names every call, every finding and every test. */
public final class ReadmeTest {
    private static final Pattern SHOWN = Pattern.compile("(x\\.\\w+\\(.*\\));\\s+// (-?\\d+)(:.*)?");

    public static void main(String[] args) throws Exception {
        String readme = Files.readString(Path.of("README.md"));
        examples(blocks(readme));
        calls(readme);
        findings(readme);
        tests(readme);
        Check.end(ReadmeTest.class);
    }

    private static List<String> blocks(String readme) {
        List<String> lines = new ArrayList<>();
        Matcher block = Pattern.compile("(?ms)^```java\\n(.*?)^```$").matcher(readme);
        while (block.find()) {
            lines.addAll(List.of(block.group(1).split("\n")));
        }
        return lines;
    }

    // All blocks are one program; a line that shows an answer keeps what the call really answers.
    private static void examples(List<String> lines) throws Exception {
        StringBuilder code = new StringBuilder("public class ReadmeExamples {\npublic static long[] told() {\n");
        List<String> shown = new ArrayList<>();
        List<Long> due = new ArrayList<>();
        for (String line : lines) {
            Matcher m = SHOWN.matcher(line);
            if (m.matches()) {
                code.append("told[").append(shown.size()).append("] = ").append(m.group(1)).append(";\n");
                shown.add(m.group(1));
                due.add(Long.parseLong(m.group(2)));
            } else {
                Check.due("README.md: an answer is shown of " + line, line.startsWith("x.") ? 1 : 0, 0);
                code.append(line).append('\n');
            }
        }
        code.insert(code.indexOf("told() {\n") + 9, "long[] told = new long[" + shown.size() + "];\n");
        code.append("return told;\n}\n}\n");
        Check.due("README.md shows examples", shown.size() > 60 ? 1 : 0, 1);
        long[] told = run(code.toString());
        for (int i = 0; i < told.length; i++) {
            Check.due("README.md: " + shown.get(i), told[i], due.get(i));
        }
    }

    private static long[] run(String code) throws Exception {
        Path work = Files.createTempDirectory("readme");
        Path source = work.resolve("ReadmeExamples.java");
        Path compiled = work.resolve("ReadmeExamples.class");
        try {
            Files.writeString(source, code);
            JavaCompiler javac = ToolProvider.getSystemJavaCompiler();
            String path = System.getProperty("java.class.path");
            int end = javac.run(null, null, null, "-cp", path, "-d", work.toString(), source.toString());
            Check.due("README.md: the examples compile", end, 0);
            if (end != 0) {
                return new long[0];
            }
            URL[] at = {work.toUri().toURL()};
            try (URLClassLoader loader = new URLClassLoader(at, ReadmeTest.class.getClassLoader())) {
                return (long[]) loader.loadClass("ReadmeExamples").getMethod("told").invoke(null);
            }
        } finally {
            Files.deleteIfExists(source);
            Files.deleteIfExists(compiled);
            Files.deleteIfExists(work);
        }
    }

    private static void calls(String readme) {
        for (Method m : RoundsPerHour.class.getDeclaredMethods()) {
            if (Modifier.isPublic(m.getModifiers())) {
                Check.due("README.md names " + m.getName(), readme.contains("`" + m.getName() + "`") ? 1 : 0, 1);
            }
        }
    }

    private static void findings(String readme) {
        String[] names = {"BEYOND", "FULL", "KIND", "NONE", "STATE", "MISSING", "SIZE", "NOUGHT", "OVER"};
        for (int f = 0; f < names.length; f++) {
            String row = "| " + names[f] + " | " + f + " | " + (-2000000001 - f) + " | " + (-4000000000000000001L - f) + " |\n";
            Check.due("README.md tells " + row.trim(), readme.contains(row) ? 1 : 0, 1);
        }
    }

    private static void tests(String readme) {
        File[] files = new File("src/test/java").listFiles();
        Check.due("tests are there", files != null && files.length > 0 ? 1 : 0, 1);
        for (File file : files == null ? new File[0] : files) {
            String name = file.getName().replace(".java", "");
            if (name.endsWith("Test")) {
                Check.due("README.md names " + name, readme.contains("`" + name + "`") ? 1 : 0, 1);
            }
        }
        Matcher named = Pattern.compile("`(\\w+Test)`").matcher(readme);
        while (named.find()) {
            Check.due(named.group(1) + " is there", new File("src/test/java/" + named.group(1) + ".java").isFile() ? 1 : 0, 1);
        }
    }
}
