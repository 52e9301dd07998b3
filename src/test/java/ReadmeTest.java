import java.io.IOException;
import java.nio.charset.StandardCharsets;
import java.nio.file.Files;
import java.nio.file.Path;
import java.util.ArrayList;
import java.util.List;
import java.util.TreeSet;
import java.util.concurrent.TimeUnit;
import java.util.regex.Matcher;
import java.util.regex.Pattern;
import java.util.stream.Stream;

/** README.md holds as it is written: its use of the class, its commands, and the tests that it names. */
public final class ReadmeTest {
    private static final Due due = new Due();
    private static final String CLASS = "src/main/java/FlagLaundry.java";
    /** A line of the example that prints, with what it prints, up to a colon, behind it. */
    private static final Pattern PRINTED = Pattern.compile("println\\(.*\\); +// ([^:\n]+)");

    public static void main(String[] args) throws IOException, InterruptedException {
        Path source = Path.of(System.getProperty("flaglaundry.source", CLASS)).toAbsolutePath().normalize();
        Path home = source.getParent().getParent().getParent().getParent();
        String readme = Files.readString(home.resolve("README.md"), StandardCharsets.UTF_8);
        use(source, readme);
        tests(home, readme);
        due.end();
    }

    /** Does in an empty folder what README.md says, by its own commands. */
    private static void use(Path source, String readme) throws IOException, InterruptedException {
        String example = block(readme, "java");
        String commands = block(readme, "sh");
        due.isTrue("README.md shows no use", example.contains("class Example") && commands.contains("javac"));
        Path folder = Files.createTempDirectory("readme");
        try {
            Files.createDirectories(folder.resolve(CLASS).getParent());
            Files.copy(source, folder.resolve(CLASS));
            Files.writeString(folder.resolve("Example.java"), example, StandardCharsets.UTF_8);
            Path printed = folder.resolve("printed");
            Process shell = new ProcessBuilder("sh", "-e", "-c", commands).directory(folder.toFile())
                    .redirectOutput(printed.toFile()).redirectError(ProcessBuilder.Redirect.INHERIT).start();
            boolean ended = shell.waitFor(120, TimeUnit.SECONDS);
            shell.destroyForcibly();
            List<String> lines = Files.readAllLines(printed, StandardCharsets.UTF_8);
            due.isTrue("the commands of README.md fail: " + lines, ended && shell.exitValue() == 0);
            due.isTrue("the use of README.md printed " + lines, lines.equals(told(example)));
        } finally {
            delete(folder);
        }
    }

    private static String block(String readme, String language) {
        Matcher block = Pattern.compile("(?s)```" + language + "\n(.*?)```").matcher(readme);
        return block.find() ? block.group(1) : "";
    }

    private static List<String> told(String example) {
        List<String> told = new ArrayList<>();
        Matcher printed = PRINTED.matcher(example);
        while (printed.find()) {
            told.add(printed.group(1));
        }
        due.isTrue("a line of the example prints what it does not tell",
                told.size() == example.split("println").length - 1);
        return told;
    }

    private static void tests(Path home, String readme) throws IOException {
        due.isTrue(".ci/run is none that can be run",
                readme.contains("\n    .ci/run\n") && Files.isExecutable(home.resolve(".ci/run")));
        TreeSet<String> there = new TreeSet<>();
        try (Stream<Path> files = Files.list(home.resolve("src/test/java"))) {
            files.forEach(file -> there.add(file.getFileName().toString().replace(".java", "")));
        }
        TreeSet<String> named = new TreeSet<>();
        Matcher word = Pattern.compile("`([A-Z][A-Za-z]*)`").matcher(readme.substring(readme.indexOf("## Tests")));
        while (word.find()) {
            named.add(word.group(1));
        }
        due.isTrue("README.md names " + named + ", there are " + there, named.equals(there));
    }

    private static void delete(Path folder) throws IOException {
        List<Path> all;
        try (Stream<Path> files = Files.walk(folder)) {
            all = new ArrayList<>(files.toList());
        }
        for (int i = all.size() - 1; i >= 0; i--) {
            Files.delete(all.get(i));
        }
    }
}
