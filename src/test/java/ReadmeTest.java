import java.io.ByteArrayOutputStream;
import java.io.PrintStream;
import java.net.URL;
import java.net.URLClassLoader;
import java.nio.file.Files;
import java.nio.file.Path;
import java.util.ArrayList;
import java.util.List;
import javax.tools.ToolProvider;

/** The examples of README.md, run one behind the other, print what their comments say; run from the checkout's root. */
public final class ReadmeTest {
    private static final String PRINTS = "System.out.println(";

    public static void main(String[] args) throws Exception {
        List<String> code = new ArrayList<>();
        List<String> due = new ArrayList<>();
        boolean isCode = false;
        for (String line : Files.readAllLines(Path.of("README.md"))) {
            if (line.startsWith("```")) {
                isCode = line.equals("```java");
            } else if (isCode) {
                code.add(line);
                if (line.startsWith(PRINTS)) {
                    due.add(line.substring(line.indexOf("// ") + 3));
                }
            }
        }
        List<String> got = printedBy(code);
        boolean holds = !due.isEmpty() && got.equals(due);
        System.out.println(holds ? "the examples print what they say" : "printed " + got + ", due is " + due);
        if (!holds) {
            System.exit(1);
        }
    }

    private static List<String> printedBy(List<String> code) throws Exception {
        Path work = Files.createTempDirectory("readme");
        Path source = work.resolve("Example.java");
        try {
            String body = String.join("\n", code);
            Files.writeString(source, "public class Example { public static void main(String[] a) {\n" + body + "\n} }\n");
            String classes = System.getProperty("java.class.path");
            int failed = ToolProvider.getSystemJavaCompiler().run(null, null, null, "-cp", classes, "-d", work.toString(), source.toString());
            return failed == 0 ? run(work) : List.of("an example that does not compile");
        } finally {
            Files.deleteIfExists(work.resolve("Example.class"));
            Files.delete(source);
            Files.delete(work);
        }
    }

    private static List<String> run(Path work) throws Exception {
        PrintStream before = System.out;
        ByteArrayOutputStream printed = new ByteArrayOutputStream();
        try (URLClassLoader loader = new URLClassLoader(new URL[] {work.toUri().toURL()})) {
            System.setOut(new PrintStream(printed, true));
            loader.loadClass("Example").getMethod("main", String[].class).invoke(null, (Object) new String[0]);
        } finally {
            System.setOut(before);
        }
        return printed.toString().lines().toList();
    }
}
