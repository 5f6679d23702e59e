import java.io.ByteArrayOutputStream;
import java.io.IOException;
import java.io.PrintStream;
import java.net.URL;
import java.net.URLClassLoader;
import java.nio.charset.StandardCharsets;
import java.nio.file.Files;
import java.nio.file.Path;

/** The example of README.md compiles and prints what is said there. It is run in the project's folder. */
final class ReadmeTest {
    private static final Check CHECK = new Check();

    public static void main(String[] args) throws Exception {
        String readme = Files.readString(Path.of("README.md"));
        Path folder = Files.createTempDirectory("readme");
        try {
            Path source = Files.writeString(folder.resolve("Party.java"), block(readme, "java"));
            int wrong = new ProcessBuilder("javac", "-Xlint:all", "-Werror", "-cp", System.getProperty("java.class.path"),
                    "-d", folder.toString(), source.toString()).inheritIO().start().waitFor();
            CHECK.same("the example is compiled", 0, wrong);
            if (wrong == 0) {
                linesAreAlike(block(readme, "text"), printed(folder));
            }
        } finally {
            empty(folder);
        }
        CHECK.end("ReadmeTest");
    }

    /** What stands in the first block of this language. */
    private static String block(String readme, String language) {
        String head = "```" + language + "\n";
        int start = readme.indexOf(head) + head.length();
        int end = readme.indexOf("```", start);
        CHECK.that("a block of " + language, readme.contains(head) && end > start);
        return end > start ? readme.substring(start, end) : "";
    }

    private static String printed(Path folder) throws IOException, ReflectiveOperationException {
        ByteArrayOutputStream bytes = new ByteArrayOutputStream();
        PrintStream screen = System.out;
        try (URLClassLoader classes = new URLClassLoader(new URL[] {folder.toUri().toURL()})) {
            System.setOut(new PrintStream(bytes, true, StandardCharsets.UTF_8));
            classes.loadClass("Party").getMethod("main", String[].class).invoke(null, (Object) new String[0]);
        } finally {
            System.setOut(screen);
        }
        return bytes.toString(StandardCharsets.UTF_8);
    }

    private static void linesAreAlike(String due, String got) {
        String[] dueLines = due.split("\n");
        String[] gotLines = got.split("\\R");
        CHECK.same("lines", dueLines.length, gotLines.length);
        for (int i = 0; i < Math.min(dueLines.length, gotLines.length); i++) {
            CHECK.that("line " + i + ": due " + dueLines[i] + ", got " + gotLines[i], dueLines[i].equals(gotLines[i]));
        }
    }

    private static void empty(Path folder) throws IOException {
        for (String file : new String[] {"Party.java", "Party.class"}) {
            Files.deleteIfExists(folder.resolve(file));
        }
        Files.delete(folder);
    }
}
