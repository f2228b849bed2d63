import java.io.IOException;
import java.nio.charset.StandardCharsets;
import java.nio.file.Files;
import java.nio.file.Path;
import java.util.spi.ToolProvider;

/** README.md: its program compiles with the class and prints what the page says; its table names every test. */
public final class ReadmeTest {
    public static void main(String[] args) throws IOException, InterruptedException {
        String page = Files.readString(Path.of("README.md"));
        Path folder = Files.createTempDirectory("readme");
        try {
            runProgram(block(page, "java"), block(page, "text"), folder);
        } finally {
            removeAll(folder);
        }
        tableOfTests(page);
        Expect.end("ReadmeTest");
    }

    /** What stands in the page's only block of this kind. */
    private static String block(String page, String kind) {
        String[] behind = page.split("```" + kind + "\n", -1);
        Expect.due("blocks of " + kind, behind.length - 1, 1);
        return behind.length < 2 ? "" : behind[1].split("```", 2)[0];
    }

    private static void runProgram(String program, String due, Path folder) throws IOException, InterruptedException {
        Path source = folder.resolve("Cutting.java");
        Files.writeString(source, program);
        int compiled = ToolProvider.findFirst("javac").orElseThrow().run(System.out, System.out, "-Xlint:all", "-Werror",
                "-d", folder.toString(), "src/main/java/NewsReel.java", source.toString());
        Expect.due("javac of the program", compiled, 0);
        Path java = Path.of(System.getProperty("java.home"), "bin", "java");
        Process run = new ProcessBuilder(java.toString(), "-cp", folder.toString(), "Cutting").redirectErrorStream(true).start();
        String got = new String(run.getInputStream().readAllBytes(), StandardCharsets.UTF_8);
        Expect.due("java of the program", run.waitFor(), 0);
        Expect.dueText("what the program prints", got, due);
    }

    private static void tableOfTests(String page) throws IOException {
        try (var files = Files.newDirectoryStream(Path.of("src/test/java"), "*Test.java")) {
            for (Path file : files) {
                String name = file.getFileName().toString().replace(".java", "");
                Expect.due("the table names " + name, page.contains("`" + name + "`"), true);
            }
        }
    }

    private static void removeAll(Path folder) throws IOException {
        try (var files = Files.newDirectoryStream(folder)) {
            for (Path file : files) {
                Files.delete(file);
            }
        }
        Files.delete(folder);
    }
}
