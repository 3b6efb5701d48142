import java.io.File;
import java.io.IOException;
import java.nio.charset.StandardCharsets;
import java.nio.file.Files;
import java.nio.file.Path;
import java.util.ArrayList;
import java.util.Comparator;
import java.util.List;
import java.util.regex.Matcher;
import java.util.regex.Pattern;
import java.util.stream.Stream;

/** README.md is true when tried as written: its program, its commands, the tests that it names. */
public final class ReadmeTest {
    private static final Path SOURCE = Path.of("src/main/java/WordRuns.java");
    private static final Path TESTS = Path.of("src/test/java");

    private ReadmeTest() {
    }

    public static void main(String[] args) throws IOException, InterruptedException {
        String page = Files.readString(Path.of("README.md"));
        Path folder = Files.createTempDirectory("readme");
        try {
            copyTo(folder);
            checkProgram(page, folder);
            checkOneTest(page, folder);
        } finally {
            remove(folder);
        }
        checkNames(page);
        Check.close("ReadmeTest");
    }

    /** The blocks of a page that are marked as such, without the marks. */
    private static List<String> blocks(String page, String mark) {
        List<String> blocks = new ArrayList<>();
        Matcher block = Pattern.compile("(?ms)^```" + mark + "\n(.*?)^```$").matcher(page);
        while (block.find()) {
            blocks.add(block.group(1));
        }
        return blocks;
    }

    private static void copyTo(Path folder) throws IOException {
        Files.createDirectories(folder.resolve(SOURCE).getParent());
        Files.copy(SOURCE, folder.resolve(SOURCE));
        Files.createDirectories(folder.resolve(TESTS));
        for (File test : TESTS.toFile().listFiles()) {
            Files.copy(test.toPath(), folder.resolve(TESTS).resolve(test.getName()));
        }
    }

    private static void checkProgram(String page, Path folder) throws IOException, InterruptedException {
        Files.writeString(folder.resolve("Mine.java"), blocks(page, "java").get(0));
        String printed = run(blocks(page, "sh").get(0), folder);
        String due = blocks(page, "text").get(0);
        Check.holds("Mine prints\n" + printed + "due is\n" + due, printed.equals(due));
    }

    private static void checkOneTest(String page, Path folder) throws IOException, InterruptedException {
        Check.holds("the command for all tests is " + blocks(page, "sh").get(1).strip(),
            Files.isExecutable(Path.of(blocks(page, "sh").get(1).strip())));
        String printed = run(blocks(page, "sh").get(2), folder);
        Check.holds("the test by itself prints " + printed, printed.matches("PromiseTest: .* answers as due\n"));
    }

    private static String run(String commands, Path folder) throws IOException, InterruptedException {
        Process process = new ProcessBuilder("bash", "-e", "-c", commands).directory(folder.toFile())
            .redirectErrorStream(true).start();
        process.getOutputStream().close();
        String printed = new String(process.getInputStream().readAllBytes(), StandardCharsets.UTF_8);
        Check.due(commands.strip() + " ends with", process.waitFor(), 0);
        return printed;
    }

    private static void checkNames(String page) {
        for (String file : TESTS.toFile().list()) {
            String name = file.replace(".java", "");
            Check.holds("it names " + name, !name.endsWith("Test") || page.contains("`" + name + "`"));
        }
        Matcher named = Pattern.compile("`(\\w+Test)`").matcher(page);
        while (named.find()) {
            Check.holds(named.group(1) + " is there", Files.exists(TESTS.resolve(named.group(1) + ".java")));
        }
    }

    private static void remove(Path folder) throws IOException {
        try (Stream<Path> paths = Files.walk(folder)) {
            for (Path path : paths.sorted(Comparator.reverseOrder()).toArray(Path[]::new)) {
                Files.delete(path);
            }
        }
    }
}
