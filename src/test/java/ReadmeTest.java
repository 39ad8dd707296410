import java.io.ByteArrayOutputStream;
import java.io.PrintStream;
import java.net.URL;
import java.net.URLClassLoader;
import java.nio.file.Files;
import java.nio.file.Path;
import java.util.ArrayList;
import java.util.List;
import java.util.regex.Matcher;
import java.util.regex.Pattern;
import javax.tools.ToolProvider;

/** The program in README.md prints the numbers with which its comments begin. It is run beside README.md. */
public final class ReadmeTest {
    private static final Pattern PRINTED = Pattern.compile("println\\(.*// (\\d+(\\.\\d+)?)");
    private static final Check CHECK = new Check("ReadmeTest");

    private ReadmeTest() {
    }

    public static void main(String[] args) throws Exception {
        List<String> example = example();
        List<String> due = new ArrayList<>();
        for (String line : example) {
            Matcher matcher = PRINTED.matcher(line);
            if (matcher.find()) {
                due.add(matcher.group(1));
            }
        }
        List<String> got = printed(example);
        CHECK.due("the number of printed lines", got.size(), due.size());
        for (int i = 0; i < Math.min(got.size(), due.size()); i++) {
            CHECK.due("line " + i + ", " + got.get(i) + " for " + due.get(i), got.get(i).equals(due.get(i)) ? 1 : 0, 1);
        }
        CHECK.end();
    }

    private static List<String> example() throws Exception {
        List<String> lines = Files.readAllLines(Path.of("README.md"));
        int start = lines.indexOf("```java") + 1;
        return lines.subList(start, start + lines.subList(start, lines.size()).indexOf("```"));
    }

    private static List<String> printed(List<String> example) throws Exception {
        Path directory = Files.createTempDirectory("readme");
        Path source = directory.resolve("Example.java");
        Files.write(source, example);
        int refused = ToolProvider.getSystemJavaCompiler().run(null, null, null, "-cp",
                System.getProperty("java.class.path"), "-d", directory.toString(), source.toString());
        CHECK.due("the errors of javac", refused, 0);
        ByteArrayOutputStream bytes = new ByteArrayOutputStream();
        PrintStream before = System.out;
        try (URLClassLoader loader = new URLClassLoader(new URL[] {directory.toUri().toURL()})) {
            System.setOut(new PrintStream(bytes, true));
            loader.loadClass("Example").getMethod("main", String[].class).invoke(null, (Object) new String[0]);
        } finally {
            System.setOut(before);
        }
        Files.delete(source);
        Files.delete(directory.resolve("Example.class"));
        Files.delete(directory);
        return bytes.toString().lines().toList();
    }
}
