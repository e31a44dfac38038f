import java.io.IOException;
import java.nio.charset.StandardCharsets;
import java.nio.file.Files;
import java.nio.file.Path;
import java.util.ArrayList;
import java.util.List;
import java.util.stream.Stream;

/** README.md's program and commands work as they are written, in a copy of the checkout. */
public final class ReadmeTest {
    private static final Path README = Path.of("README.md");
    /** This test is one of those that it runs. */
    private static final String ALL_TESTS = ".ci/run\n";

    private final Check check = new Check();
    private final Path place;

    private ReadmeTest(Path place) {
        this.place = place;
    }

    public static void main(String[] args) throws IOException, InterruptedException {
        Path all = Files.createTempDirectory("readme");
        ReadmeTest test = new ReadmeTest(all.resolve("main"));
        try {
            Files.createDirectory(all.resolve("main"));
            Files.createSymbolicLink(all.resolve("shared"), Path.of("../shared").toRealPath());
            copy(Path.of("src"), all.resolve("main/src"));
            test.run();
        } finally {
            delete(all);
        }
        test.check.end();
    }

    private void run() throws IOException, InterruptedException {
        String printed = "";
        boolean tellsAllTests = false;
        int commands = 0;
        for (String[] block : blocks()) {
            if (block[0].equals("java")) {
                String name = block[1].replaceFirst("(?s).*?class (\\w+).*", "$1");
                Files.writeString(place.resolve(name + ".java"), block[1]);
            } else if (block[1].equals(ALL_TESTS)) {
                tellsAllTests = true;
                check.same(".ci/run can be run", true, Files.isExecutable(Path.of(".ci/run")));
            } else if (block[0].equals("sh")) {
                printed = printedBy(block[1]);
                commands++;
            } else {
                check.same("what the program prints", block[1], printed);
            }
        }
        check.same("all tests are told", true, tellsAllTests);
        check.same("the other blocks of commands", 3, commands);
    }

    private String printedBy(String commands) throws IOException, InterruptedException {
        Process process = new ProcessBuilder("sh", "-e", "-c", commands).directory(place.toFile()).redirectErrorStream(true).start();
        process.getOutputStream().close();
        String printed = new String(process.getInputStream().readAllBytes(), StandardCharsets.UTF_8);
        if (process.waitFor() != 0) {
            check.report("these commands failed:\n" + commands + printed);
        }
        return printed;
    }

    /** The blocks between lines of three backquotes: what kind each is, and what stands in it. */
    private static List<String[]> blocks() throws IOException {
        List<String[]> blocks = new ArrayList<>();
        String[] open = null;
        for (String line : Files.readAllLines(README)) {
            if (line.startsWith("```") && open == null) {
                open = new String[] {line.substring(3), ""};
            } else if (line.startsWith("```")) {
                blocks.add(open);
                open = null;
            } else if (open != null) {
                open[1] += line + "\n";
            }
        }
        return blocks;
    }

    private static void copy(Path from, Path to) throws IOException {
        try (Stream<Path> all = Files.walk(from)) {
            for (Path one : (Iterable<Path>) all::iterator) {
                Files.copy(one, to.resolve(from.relativize(one).toString()));
            }
        }
    }

    private static void delete(Path folder) throws IOException {
        List<Path> all = new ArrayList<>();
        try (Stream<Path> walked = Files.walk(folder)) {
            walked.forEach(all::add);
        }
        for (int i = all.size() - 1; i >= 0; i--) {
            Files.delete(all.get(i));
        }
    }
}
