import java.io.File;
import java.io.IOException;
import java.io.InputStream;
import java.lang.reflect.Method;
import java.lang.reflect.Modifier;
import java.nio.charset.StandardCharsets;
import java.nio.file.Files;
import java.nio.file.Path;
import java.util.List;
import java.util.TreeSet;

/** README.md keeps its word: its example compiles and prints what stands there, and its tables are whole. */
public final class ReadmeTest {

    private static final String FENCE = "```";

    public static void main(String[] args) throws IOException, InterruptedException {
        List<String> readme = Files.readAllLines(Path.of("README.md"), StandardCharsets.UTF_8);
        examplePrintsWhatIsSaid(readme);
        everyMethodIsNamed(readme);
        everyTestIsNamed(readme);
        Check.end();
    }

    /** The lines of the first block that begins with this mark. */
    private static List<String> block(List<String> readme, String mark) {
        int from = readme.indexOf(FENCE + mark) + 1;
        List<String> rest = readme.subList(from, readme.size());
        int to = rest.indexOf(FENCE);
        Check.due("README.md has a block of " + mark, from > 0 && to > 0, true);
        return from > 0 && to > 0 ? rest.subList(0, to) : List.of();
    }

    private static void examplePrintsWhatIsSaid(List<String> readme) throws IOException, InterruptedException {
        Path place = Files.createTempDirectory("readme");
        Path source = place.resolve("Example.java");
        Files.write(source, block(readme, "java"), StandardCharsets.UTF_8);
        printed("javac", "-d", place.toString(), "src/main/java/StripeTrees.java", source.toString());
        List<String> got = printed("java", "-cp", place.toString(), "Example");
        Check.due("the example, which prints " + got, got.equals(block(readme, "text")), true);
        removeAll(place);
    }

    /** What the command prints as output; notices of the machine itself go to the errors, and are left out. */
    private static List<String> printed(String... command) throws IOException, InterruptedException {
        Process process = new ProcessBuilder(command).redirectError(ProcessBuilder.Redirect.INHERIT).start();
        List<String> lines;
        try (InputStream output = process.getInputStream()) {
            lines = new String(output.readAllBytes(), StandardCharsets.UTF_8).lines().toList();
        }
        Check.due("the exit code of " + command[0], process.waitFor(), 0);
        return lines;
    }

    private static void removeAll(Path place) throws IOException {
        File[] files = place.toFile().listFiles();
        for (File file : files == null ? new File[0] : files) {
            Files.delete(file.toPath());
        }
        Files.delete(place);
    }

    private static void everyMethodIsNamed(List<String> readme) {
        String table = String.join("\n", rows(readme, "| to | call |"));
        for (Method method : StripeTrees.class.getDeclaredMethods()) {
            if (Modifier.isPublic(method.getModifiers())) {
                String name = "`" + method.getName() + "`";
                Check.due("the table names " + name, table.contains(name), true);
            }
        }
    }

    private static void everyTestIsNamed(List<String> readme) {
        TreeSet<String> named = new TreeSet<>();
        for (String row : rows(readme, "| test | promises |")) {
            named.add(row.split("`")[1] + ".java");
        }
        TreeSet<String> there = new TreeSet<>();
        String[] files = new File("src/test/java").list();
        for (String file : files == null ? new String[0] : files) {
            if (file.endsWith("Test.java")) {
                there.add(file);
            }
        }
        Check.due("the tests named " + named + " are those there " + there, named.equals(there), true);
    }

    /** The rows of the table with this head. */
    private static List<String> rows(List<String> readme, String head) {
        int from = readme.indexOf(head) + 2;
        Check.due("README.md has the table " + head, from > 1, true);
        int to = from;
        while (to < readme.size() && readme.get(to).startsWith("| ")) {
            to++;
        }
        return readme.subList(Math.min(from, to), to);
    }
}
