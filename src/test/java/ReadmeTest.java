import java.io.File;
import java.io.IOException;
import java.lang.reflect.Method;
import java.lang.reflect.Modifier;
import java.nio.file.Files;
import java.nio.file.Path;
import java.util.ArrayList;
import java.util.List;
import java.util.regex.Matcher;
import java.util.regex.Pattern;

/** README.md: its example is compiled and run, and answers what stands behind each call; every call is named. */
public final class ReadmeTest extends Asking {
    private static final String EXAMPLE = "Example";
    private static final Pattern BLOCK = Pattern.compile("```java\n(.*?)```", Pattern.DOTALL);
    private static final Pattern PRINTED = Pattern.compile("println\\((.*)\\); *// (\\S+)");

    public static void main(String[] args) throws IOException, InterruptedException {
        String readme = Files.readString(Path.of("README.md"));
        namesEveryCall(readme);
        namesEveryTest(readme);
        Matcher block = BLOCK.matcher(readme);
        if (block.find()) {
            answersAsTold(block.group(1));
        } else {
            fail("README.md has no example");
        }
        end();
    }

    private static void namesEveryCall(String readme) {
        for (Method each : PluginHall.class.getDeclaredMethods()) {
            if (Modifier.isPublic(each.getModifiers())) {
                due("README.md names " + each.getName(), readme.contains("`" + each.getName() + "("), true);
            }
        }
    }

    private static void namesEveryTest(String readme) throws IOException {
        try (var files = Files.list(Path.of("src/test/java"))) {
            for (Path each : files.toList()) {
                String name = each.getFileName().toString().replace(".java", "");
                due("README.md names " + name, readme.contains("`" + name + "`"), true);
            }
        }
    }

    private static void answersAsTold(String example) throws IOException, InterruptedException {
        List<String> calls = new ArrayList<>();
        List<String> told = new ArrayList<>();
        for (Matcher line = PRINTED.matcher(example); line.find();) {
            calls.add(line.group(1));
            told.add(line.group(2));
        }
        String[] printed = printedBy(example).split("\\R");
        due("answers of the example", printed.length, told.size());
        for (int i = 0; i < told.size() && i < printed.length; i++) {
            due(calls.get(i) + " is told as " + told.get(i) + ", but is " + printed[i], printed[i].equals(told.get(i)), true);
        }
    }

    private static String printedBy(String example) throws IOException, InterruptedException {
        Path dir = Files.createTempDirectory("readme");
        Path source = dir.resolve(EXAMPLE + ".java");
        String classes = System.getProperty("java.class.path");
        try {
            Files.writeString(source, example);
            outputOf("javac", "--release", "17", "-cp", classes, "-d", dir.toString(), source.toString());
            return outputOf("java", "-cp", dir + File.pathSeparator + classes, EXAMPLE);
        } finally {
            Files.deleteIfExists(source);
            Files.deleteIfExists(dir.resolve(EXAMPLE + ".class"));
            Files.deleteIfExists(dir);
        }
    }

    private static String outputOf(String... command) throws IOException, InterruptedException {
        Process process = new ProcessBuilder(command).redirectError(ProcessBuilder.Redirect.INHERIT).start();
        String output = new String(process.getInputStream().readAllBytes());
        due(command[0] + " of the example ends with", process.waitFor(), 0);
        return output;
    }
}
