import java.io.IOException;
import java.nio.charset.StandardCharsets;
import java.nio.file.Files;
import java.nio.file.Path;
import java.util.ArrayList;
import java.util.List;
import java.util.Set;
import java.util.TreeSet;
import java.util.regex.Matcher;
import java.util.regex.Pattern;
import java.util.stream.Stream;

/** README.md: its example, compiled and run by its own commands, prints what it says. */
final class ReadmeTest {
    private static final Check CHECK = new Check("ReadmeTest");
    private static final Path PROGRAM = Path.of("src", "main", "java", "GlowwormGrid.java");
    private static final Path TESTS = Path.of("src", "test", "java");
    private static final String PRINTS = "System.out.println(";

    private ReadmeTest() {
    }

    public static void main(String[] arguments) throws IOException, InterruptedException {
        String page = Files.readString(Path.of("README.md"), StandardCharsets.UTF_8);
        List<String> programs = blocks(page, "java");
        List<String> commands = blocks(page, "sh");
        CHECK.same("programs", programs.size(), 1);
        CHECK.same("blocks of commands", commands.size(), 2);
        example(programs.get(0), commands.get(0));
        CHECK.same("runs the tests", commands.get(1), ".ci/run\n");
        CHECK.yes("can be run", Files.isExecutable(Path.of(".ci", "run")));
        CHECK.same("tests in the table", testsIn(page).toString(), testsHere().toString());
        CHECK.end();
    }

    private static List<String> blocks(String page, String kind) {
        List<String> found = new ArrayList<>();
        Matcher matcher = Pattern.compile("(?ms)^```" + kind + "\n(.*?)^```$").matcher(page);
        while (matcher.find()) {
            found.add(matcher.group(1));
        }
        return found;
    }

    private static void example(String program, String commands) throws IOException, InterruptedException {
        Path folder = Files.createTempDirectory("readme");
        Files.createDirectories(folder.resolve(PROGRAM).getParent());
        Files.copy(PROGRAM, folder.resolve(PROGRAM));
        Files.writeString(folder.resolve("Example.java"), program);
        List<String> due = printedBy(program);
        List<String> got = outputOf(folder, commands);
        for (int line = 0; line < Math.min(got.size(), due.size()); line++) {
            CHECK.same("line " + (line + 1), got.get(line), due.get(line));
        }
        CHECK.same("lines printed", got.size(), due.size());
        remove(folder);
    }

    /** What stands behind each line that prints, up to the colon. */
    private static List<String> printedBy(String program) {
        List<String> due = new ArrayList<>();
        for (String line : program.split("\n")) {
            if (line.contains(PRINTS)) {
                int comment = line.indexOf("; // ");
                CHECK.yes("says what is printed:" + line, comment > 0);
                due.add(line.substring(comment + "; // ".length()).split(": ")[0]);
            }
        }
        return due;
    }

    private static List<String> outputOf(Path folder, String commands) throws IOException, InterruptedException {
        Process process = new ProcessBuilder("sh", "-e", "-c", commands).directory(folder.toFile())
                .redirectErrorStream(true).start();
        String output = new String(process.getInputStream().readAllBytes(), StandardCharsets.UTF_8);
        CHECK.same("exit code", process.waitFor(), 0);
        return output.lines().toList();
    }

    private static void remove(Path folder) throws IOException {
        List<Path> paths;
        try (Stream<Path> walk = Files.walk(folder)) {
            paths = new ArrayList<>(walk.toList());
        }
        // A folder stands ahead of what it holds.
        for (int index = paths.size() - 1; index >= 0; index--) {
            Files.delete(paths.get(index));
        }
    }

    private static Set<String> testsIn(String page) {
        Set<String> names = new TreeSet<>();
        for (String line : page.split("\n")) {
            Matcher matcher = Pattern.compile("`(\\w+Test)`").matcher(line.startsWith("|") ? line : "");
            while (matcher.find()) {
                names.add(matcher.group(1));
            }
        }
        return names;
    }

    private static Set<String> testsHere() throws IOException {
        Set<String> names = new TreeSet<>();
        try (Stream<Path> files = Files.list(TESTS)) {
            files.map(file -> file.getFileName().toString()).filter(name -> name.endsWith("Test.java"))
                    .forEach(name -> names.add(name.substring(0, name.length() - ".java".length())));
        }
        return names;
    }
}
