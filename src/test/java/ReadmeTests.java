import java.io.BufferedReader;
import java.io.IOException;
import java.io.InputStreamReader;
import java.nio.file.Files;
import java.nio.file.Path;
import java.util.ArrayList;
import java.util.Comparator;
import java.util.List;
import java.util.regex.Matcher;
import java.util.regex.Pattern;
import java.util.spi.ToolProvider;
import java.util.stream.Stream;

/** The example of README.md, compiled and run: each line printed is the answer that stands behind it. */
public final class ReadmeTests {
    private static final Pattern PRINTED = Pattern.compile("System\\.out\\.println\\((.*)\\); // ([^,\n]*)");
    private static final int FEWEST = 10;

    private final Kit kit = new Kit("ReadmeTests");

    public static void main(String[] args) throws IOException, InterruptedException {
        ReadmeTests tests = new ReadmeTests();
        Path folder = Files.createTempDirectory("readme");
        try {
            tests.example(folder);
        } finally {
            deleteAll(folder);
        }
        tests.kit.finish();
    }

    private void example(Path folder) throws IOException, InterruptedException {
        String readme = Files.readString(Path.of("README.md"));
        Matcher block = Pattern.compile("(?s)```java\n(.*?)```").matcher(readme);
        kit.due("has an example", block.find(), true);
        String source = block.group(1);
        Path file = folder.resolve("Example.java");
        Files.writeString(file, source);
        int code = ToolProvider.findFirst("javac").orElseThrow().run(System.out, System.out,
                "-Xlint:all", "-Werror", "-d", folder.toString(), "src/main/java/FringeBench.java", file.toString());
        kit.due("javac", code, 0);
        compare(source, linesOf(folder));
    }

    private void compare(String source, List<String> printed) {
        Matcher due = PRINTED.matcher(source);
        int n = 0;
        while (due.find()) {
            String got = n < printed.size() ? printed.get(n) : "nothing";
            kit.due(due.group(1) + " printed " + got + ", README says " + due.group(2) + ":",
                    got.equals(due.group(2).trim()), true);
            n++;
        }
        kit.due("lines printed", printed.size(), n);
        kit.due("enough lines", n >= FEWEST, true);
    }

    private static List<String> linesOf(Path folder) throws IOException, InterruptedException {
        String java = Path.of(System.getProperty("java.home"), "bin", "java").toString();
        Process process = new ProcessBuilder(java, "-cp", folder.toString(), "Example").redirectErrorStream(true).start();
        List<String> lines = new ArrayList<>();
        try (BufferedReader reader = new BufferedReader(new InputStreamReader(process.getInputStream()))) {
            for (String line = reader.readLine(); line != null; line = reader.readLine()) {
                lines.add(line);
            }
        }
        process.waitFor();
        return lines;
    }

    private static void deleteAll(Path folder) throws IOException {
        try (Stream<Path> paths = Files.walk(folder)) {
            for (Path path : paths.sorted(Comparator.reverseOrder()).toList()) {
                Files.delete(path);
            }
        }
    }
}
