import java.io.IOException;
import java.nio.charset.StandardCharsets;
import java.nio.file.Files;
import java.nio.file.Path;
import java.util.ArrayList;
import java.util.Comparator;
import java.util.List;
import java.util.stream.Stream;

/** That README.md holds as it stands: its program, what that prints, its commands, and that it names every test. */
public final class ReadmeTest {
    private static final Path README = Path.of("README.md");
    private static final Path TESTS = Path.of("src/test/java");

    private static int wrong = 0;

    public static void main(String[] args) throws IOException, InterruptedException {
        String page = Files.readString(README);
        namesEveryTest(page);
        Path room = Files.createTempDirectory("readme");
        try {
            commands(page, layOut(room, page));
        } finally {
            remove(room);
        }
        System.out.println("ReadmeTest: " + wrong + " wrong");
        if (wrong != 0) {
            System.exit(1);
        }
    }

    private static void check(boolean fine, String otherwise) {
        if (!fine) {
            wrong++;
            System.out.println(otherwise);
        }
    }

    private static void namesEveryTest(String page) throws IOException {
        try (Stream<Path> files = Files.list(TESTS)) {
            for (Path file : files.sorted().toList()) {
                String name = file.getFileName().toString().replace(".java", "");
                check(!name.endsWith("Test") || page.contains("`" + name + "`"), "README.md doesn't name " + name);
            }
        }
    }

    /** Blocks between lines of three back quotes, in their order. */
    private static List<String> blocks(String page, String kind) {
        List<String> found = new ArrayList<>();
        StringBuilder block = null;
        for (String line : page.split("\n")) {
            if (block == null && line.equals("```" + kind)) {
                block = new StringBuilder();
            } else if (block != null && line.equals("```")) {
                found.add(block.toString());
                block = null;
            } else if (block != null) {
                block.append(line).append('\n');
            }
        }
        return found;
    }

    /** A directory that looks like this one, so that Example.java can lie in it. */
    private static Path layOut(Path room, String page) throws IOException {
        Path place = Files.createDirectory(room.resolve("main"));
        Files.createSymbolicLink(place.resolve("src"), Path.of("src").toRealPath());
        Files.createSymbolicLink(room.resolve("shared"), Path.of("../shared").toRealPath());
        Files.createDirectory(room.resolve("tmp"));
        List<String> programs = blocks(page, "java");
        check(programs.size() == 1, "README.md has " + programs.size() + " programs");
        Files.writeString(place.resolve("Example.java"), programs.get(0));
        return place;
    }

    private static void commands(String page, Path place) throws IOException, InterruptedException {
        List<String> commands = blocks(page, "sh");
        List<String> printed = blocks(page, "text");
        check(commands.size() == 3 && printed.size() == 1, "README.md has " + commands.size() + " rows of commands");
        for (int i = 0; i < commands.size(); i++) {
            String output = run(commands.get(i), place);
            check(i != 0 || output.equals(printed.get(0)), "README.md tells\n" + printed.get(0) + "printed is\n" + output);
        }
    }

    private static String run(String commands, Path place) throws IOException, InterruptedException {
        ProcessBuilder builder = new ProcessBuilder("sh", "-e", "-c", commands);
        builder.directory(place.toFile());
        builder.environment().put("TMPDIR", place.resolveSibling("tmp").toString());
        builder.redirectErrorStream(true);
        Process process = builder.start();
        String output = new String(process.getInputStream().readAllBytes(), StandardCharsets.UTF_8);
        int code = process.waitFor();
        check(code == 0, "exit code " + code + " of\n" + commands + output);
        return output;
    }

    private static void remove(Path room) throws IOException {
        try (Stream<Path> files = Files.walk(room)) {
            for (Path file : files.sorted(Comparator.reverseOrder()).toList()) {
                Files.delete(file);
            }
        }
    }
}
