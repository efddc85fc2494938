import java.io.ByteArrayOutputStream;
import java.io.IOException;
import java.io.PrintStream;
import java.lang.reflect.Method;
import java.lang.reflect.Modifier;
import java.net.URL;
import java.net.URLClassLoader;
import java.nio.file.Files;
import java.nio.file.Path;
import java.util.ArrayList;
import java.util.List;
import java.util.regex.Matcher;
import java.util.regex.Pattern;
import java.util.spi.ToolProvider;

/** README.md: its example is compiled and run, and answers what stands behind each call; every call is named. */
public final class ReadmeTest extends Asking {
    private static final String EXAMPLE = "Example";
    private static final Pattern BLOCK = Pattern.compile("```java\n(.*?)```", Pattern.DOTALL);
    private static final Pattern PRINTED = Pattern.compile("println\\((.*)\\); *// (\\S+)");

    public static void main(String[] args) throws IOException, ReflectiveOperationException {
        String readme = Files.readString(Path.of("README.md"));
        namesEveryCall(readme);
        namesEveryTest(readme);
        Matcher block = BLOCK.matcher(readme);
        if (block.find()) {
            answersAsTold(block.group(1));
        } else {
            fail("README.md has no example");
        }
        end();
    }

    private static void namesEveryCall(String readme) {
        for (Method each : PluginHall.class.getDeclaredMethods()) {
            if (Modifier.isPublic(each.getModifiers())) {
                due("README.md names " + each.getName(), readme.contains("`" + each.getName() + "("), true);
            }
        }
    }

    private static void namesEveryTest(String readme) throws IOException {
        try (var files = Files.list(Path.of("src/test/java"))) {
            for (Path each : files.toList()) {
                String name = each.getFileName().toString().replace(".java", "");
                due("README.md names " + name, readme.contains("`" + name + "`"), true);
            }
        }
    }

    private static void answersAsTold(String example) throws IOException, ReflectiveOperationException {
        List<String> calls = new ArrayList<>();
        List<String> told = new ArrayList<>();
        for (Matcher line = PRINTED.matcher(example); line.find();) {
            calls.add(line.group(1));
            told.add(line.group(2));
        }
        String[] printed = printedBy(example).split("\\R");
        due("answers of the example", printed.length, told.size());
        for (int i = 0; i < told.size() && i < printed.length; i++) {
            due(calls.get(i) + " is told as " + told.get(i) + ", but is " + printed[i], printed[i].equals(told.get(i)), true);
        }
    }

    private static String printedBy(String example) throws IOException, ReflectiveOperationException {
        Path dir = Files.createTempDirectory("readme");
        Path source = dir.resolve(EXAMPLE + ".java");
        Path compiled = dir.resolve(EXAMPLE + ".class");
        try {
            Files.writeString(source, example);
            int faults = ToolProvider.findFirst("javac").orElseThrow().run(System.out, System.err, "--release", "17",
                "-cp", System.getProperty("java.class.path"), "-d", dir.toString(), source.toString());
            due("the example compiles", faults, 0);
            return faults == 0 ? run(dir) : "";
        } finally {
            Files.deleteIfExists(source);
            Files.deleteIfExists(compiled);
            Files.deleteIfExists(dir);
        }
    }

    private static String run(Path dir) throws IOException, ReflectiveOperationException {
        PrintStream before = System.out;
        ByteArrayOutputStream printed = new ByteArrayOutputStream();
        try (URLClassLoader loader = new URLClassLoader(new URL[] {dir.toUri().toURL()})) {
            System.setOut(new PrintStream(printed, true));
            loader.loadClass(EXAMPLE).getMethod("main", String[].class).invoke(null, (Object) new String[0]);
        } finally {
            System.setOut(before);
        }
        return printed.toString();
    }
}
