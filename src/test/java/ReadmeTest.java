import java.io.IOException;
import java.nio.charset.StandardCharsets;
import java.nio.file.Files;
import java.nio.file.Path;
import java.util.ArrayList;
import java.util.List;
import java.util.stream.Stream;

/** What README.md shows works as it is written there, on a copy of src alone; run from the project's root. */
public final class ReadmeTest {
    private static final Path EXAMPLE = Path.of("src/example/java/Example.java");
    private static final String TESTS = ".ci/run\n";

    public static void main(String[] args) throws IOException, InterruptedException {
        String readme = Files.readString(Path.of("README.md"));
        same("the example", List.of(Files.readString(EXAMPLE)), blocks(readme, "java"));
        Check.due("the class is named", readme.contains("`src/main/java/FourPoses.java`"), true);

        Path folder = Files.createTempDirectory("readme");
        copy(Path.of("src"), folder);
        List<String> answers = new ArrayList<>();
        for (String commands : blocks(readme, "sh")) {
            if (!commands.equals(TESTS)) {
                answers.add(run(folder, commands));
            }
        }
        List<String> due = new ArrayList<>(blocks(readme, "text"));
        due.add("");
        same("what the commands print", due, answers);
        remove(folder);

        Check.due("the tests' command is shown", blocks(readme, "sh").contains(TESTS), true);
        Check.due("it is a program", Files.isExecutable(Path.of(TESTS.trim())), true);
        Check.end();
    }

    /** The texts between a line of three ticks with this name and one of three ticks. */
    private static List<String> blocks(String readme, String name) {
        List<String> all = new ArrayList<>();
        StringBuilder block = null;
        for (String line : readme.split("\n")) {
            if (block == null && line.equals("```" + name)) {
                block = new StringBuilder();
            } else if (block != null && line.equals("```")) {
                all.add(block.toString());
                block = null;
            } else if (block != null) {
                block.append(line).append("\n");
            }
        }
        return all;
    }

    private static void same(String what, List<String> due, List<String> is) {
        if (!due.equals(is)) {
            Check.wrong(what + ": " + is + "\ndue is " + due);
        }
    }

    private static String run(Path folder, String commands) throws IOException, InterruptedException {
        ProcessBuilder shell = new ProcessBuilder("sh", "-e", "-c", commands);
        Process running = shell.directory(folder.toFile()).redirectErrorStream(true).start();
        String printed = new String(running.getInputStream().readAllBytes(), StandardCharsets.UTF_8);
        Check.due(commands, running.waitFor(), 0);
        return printed;
    }

    private static void copy(Path from, Path into) throws IOException {
        try (Stream<Path> all = Files.walk(from)) {
            for (Path one : all.toList()) {
                Files.copy(one, into.resolve(one.toString()));
            }
        }
    }

    private static void remove(Path folder) throws IOException {
        try (Stream<Path> all = Files.walk(folder)) {
            List<Path> deepestLast = all.toList();
            for (int i = deepestLast.size() - 1; i >= 0; i--) {
                Files.delete(deepestLast.get(i));
            }
        }
    }
}
