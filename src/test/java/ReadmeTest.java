import java.io.IOException;
import java.nio.file.Files;
import java.nio.file.Path;
import java.util.List;

/**
 * Follows README.md word for word: writes its program, gives its commands, and looks for the output that it shows.
 * It is run in the project's directory.
 */
public final class ReadmeTest {
    private static final Due DUE = new Due("ReadmeTest");
    private static final String PROGRAM = "src/main/java/DisambiguationBench.java";

    public static void main(String[] args) throws IOException, InterruptedException {
        String readme = Files.readString(Path.of("README.md"));
        Path directory = Files.createTempDirectory("readme");
        try {
            Files.createDirectories(directory.resolve(PROGRAM).getParent());
            Files.copy(Path.of(PROGRAM), directory.resolve(PROGRAM));
            Files.writeString(directory.resolve("YourProgram.java"), block(readme, "java"));
            String printed = "";
            for (String command : block(readme, "sh").split("\n")) {
                printed = outputOf(command, directory);
            }
            DUE.holds("README.md shows what its program prints:\n" + printed, printed.equals(block(readme, "text")));
        } finally {
            delete(directory);
        }
        namesEachCall(readme);
        namesEachTest(readme);
        DUE.finish();
    }

    /** The first block of a kind, without the lines that fence it. */
    private static String block(String readme, String kind) {
        String fence = "```" + kind + "\n";
        int start = readme.indexOf(fence);
        int end = readme.indexOf("```", start + fence.length());
        if (start < 0 || end < 0) {
            throw new IllegalStateException("README.md has no block of " + kind);
        }
        return readme.substring(start + fence.length(), end);
    }

    private static String outputOf(String command, Path directory) throws IOException, InterruptedException {
        Process process = new ProcessBuilder(command.split(" ")).directory(directory.toFile())
                .redirectError(ProcessBuilder.Redirect.INHERIT).start();
        String output = new String(process.getInputStream().readAllBytes());
        DUE.is("exit code of " + command, process.waitFor(), 0);
        return output;
    }

    private static void delete(Path directory) throws IOException {
        List<Path> deepestFirst;
        try (var paths = Files.walk(directory)) {
            deepestFirst = paths.sorted((one, other) -> other.compareTo(one)).toList();
        }
        for (Path path : deepestFirst) {
            Files.delete(path);
        }
    }

    private static void namesEachCall(String readme) {
        for (var method : DisambiguationBench.class.getMethods()) {
            if (method.getDeclaringClass() == DisambiguationBench.class) {
                DUE.holds("README.md names " + method.getName(), readme.contains("`" + method.getName() + "("));
            }
        }
    }

    private static void namesEachTest(String readme) throws IOException {
        try (var files = Files.list(Path.of("src/test/java"))) {
            for (Path file : files.toList()) {
                String name = file.getFileName().toString().replace(".java", "");
                DUE.holds("README.md names " + name, readme.contains("`" + name + "`"));
            }
        }
    }
}
