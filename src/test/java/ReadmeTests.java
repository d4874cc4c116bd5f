import java.io.IOException;
import java.nio.charset.StandardCharsets;
import java.nio.file.Files;
import java.nio.file.Path;
import java.util.ArrayList;
import java.util.List;

/** Runs the program in README.md by the commands that stand there, and looks whether it prints what stands there. */
public final class ReadmeTests {
    private static final Path PLACE = Path.of("build", "ci", "readme");
    private static final Path CLASS = Path.of("src", "main", "java", "PackSpring.java");

    private ReadmeTests() {
    }

    public static void main(String[] args) throws Exception {
        List<String> page = Files.readAllLines(Path.of("README.md"));
        Files.createDirectories(PLACE.resolve(CLASS).getParent());
        Files.writeString(PLACE.resolve(CLASS), Files.readString(CLASS));
        Files.writeString(PLACE.resolve("Example.java"), String.join("\n", block(page, "java")) + "\n");
        List<String> printed = new ArrayList<>();
        for (String command : block(page, "sh")) {
            printed.addAll(run(command));
        }
        boolean isSo = printed.equals(block(page, "text"));
        if (!isSo) {
            System.out.println("the example of README.md printed " + printed);
        }
        System.out.println(isSo ? "1 passed, 0 failed" : "0 passed, 1 failed");
        if (!isSo) {
            System.exit(1);
        }
    }

    /** The lines of the only block of this language. */
    private static List<String> block(List<String> page, String language) {
        int start = page.indexOf("```" + language);
        if (start < 0 || start != page.lastIndexOf("```" + language)) {
            throw new IllegalStateException("README.md has not one block of " + language);
        }
        int end = start + 1 + page.subList(start + 1, page.size()).indexOf("```");
        return page.subList(start + 1, end);
    }

    private static List<String> run(String command) throws IOException, InterruptedException {
        Process process = new ProcessBuilder(command.split(" ")).directory(PLACE.toFile())
                .redirectError(ProcessBuilder.Redirect.INHERIT).start();
        String printed = new String(process.getInputStream().readAllBytes(), StandardCharsets.UTF_8);
        if (process.waitFor() != 0) {
            System.out.println(command + " failed");
        }
        return printed.lines().toList();
    }
}
