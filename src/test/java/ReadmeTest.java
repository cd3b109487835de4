import java.io.IOException;
import java.lang.reflect.InvocationTargetException;
import java.net.URL;
import java.net.URLClassLoader;
import java.nio.file.Files;
import java.nio.file.Path;
import java.util.ArrayList;
import java.util.List;
import java.util.regex.Matcher;
import java.util.regex.Pattern;
import javax.tools.JavaCompiler;
import javax.tools.ToolProvider;

/** The examples of README.md are compiled as they stand there and answer what stands behind them. */
public final class ReadmeTest {
    private static final Pattern ANSWERED = Pattern.compile("(car\\.(\\w+)\\(.*\\));\\s*// (-?\\d+)(?:[:.\\s].*)?");

    private ReadmeTest() {
    }

    private static List<List<String>> blocks(List<String> page) {
        List<List<String>> blocks = new ArrayList<>();
        List<String> block = null;
        for (String line : page) {
            if (line.startsWith("```")) {
                if (block != null) {
                    blocks.add(block);
                    block = null;
                } else if (line.equals("```java")) {
                    block = new ArrayList<>();
                }
            } else if (block != null) {
                block.add(line);
            }
        }
        return blocks;
    }

    /** A line with its answer behind it becomes a row of what is seen: the call, its answer, the answer due. */
    private static String told(String line) {
        Matcher m = ANSWERED.matcher(line);
        if (!m.matches()) {
            return line;
        }
        String call = m.group(1);
        String named = call.replace("\\", "\\\\").replace("\"", "\\\"");
        return "seen.add(new Object[] {\"" + named + "\", " + call + ", " + m.group(3) + "});";
    }

    private static String program(List<List<String>> blocks) {
        StringBuilder helpers = new StringBuilder();
        StringBuilder calls = new StringBuilder();
        for (List<String> block : blocks) {
            boolean helper = block.get(0).startsWith("static ");
            for (String line : block) {
                (helper ? helpers : calls).append(helper ? line : told(line)).append('\n');
            }
        }
        return "public final class Page {\n" + helpers + "public static void run(java.util.List<Object[]> seen) {\n" + calls
            + "}\n}\n";
    }

    private static void compileAndRun(String program) throws IOException, ReflectiveOperationException {
        Path dir = Files.createTempDirectory("readme");
        Path file = dir.resolve("Page.java");
        Files.writeString(file, program);
        JavaCompiler javac = ToolProvider.getSystemJavaCompiler();
        int failed = javac == null ? 1 : javac.run(null, null, null, "-cp", System.getProperty("java.class.path"), "-d",
            dir.toString(), file.toString());
        Check.due("the examples compile", failed, 0);
        if (failed == 0) {
            try (URLClassLoader loader = new URLClassLoader(new URL[] {dir.toUri().toURL()})) {
                List<Object[]> seen = new ArrayList<>();
                loader.loadClass("Page").getMethod("run", List.class).invoke(null, seen);
                for (Object[] row : seen) {
                    Check.due(row[0].toString(), (Integer) row[1], (Integer) row[2]);
                }
            } catch (InvocationTargetException e) {
                Check.due("the examples threw " + e.getCause(), 1, 0);
            }
        }
        for (String name : new String[] {"Page.java", "Page.class"}) {
            Files.deleteIfExists(dir.resolve(name));
        }
        Files.deleteIfExists(dir);
    }

    public static void main(String[] args) throws IOException, ReflectiveOperationException {
        List<String> page = Files.readAllLines(Path.of("README.md"));
        List<List<String>> blocks = blocks(page);
        int answered = 0;
        for (List<String> block : blocks) {
            for (String line : block) {
                answered += ANSWERED.matcher(line).matches() ? 1 : 0;
            }
        }
        Check.due("there are examples with answers", answered >= 30 ? 1 : 0, 1);
        compileAndRun(program(blocks));
        Check.finish("ReadmeTest");
    }
}
