import java.io.ByteArrayOutputStream;
import java.io.IOException;
import java.io.PrintStream;
import java.net.URL;
import java.net.URLClassLoader;
import java.nio.charset.StandardCharsets;
import java.nio.file.Files;
import java.nio.file.Path;
import java.util.Comparator;
import java.util.stream.Stream;

/** README.md: its example compiles and prints what README.md says, and every call of the face is in its table. */
public final class ReadmeTest {
    private ReadmeTest() {
    }

    public static void main(String[] args) throws Exception {
        String readme = Files.readString(Path.of(System.getProperty("project.root", "."), "README.md"), StandardCharsets.UTF_8);
        Checks.dueText("README.md's example", printedBy(block(readme, "java")), block(readme, "text"));
        String table = readme.substring(readme.indexOf("| calls |"), readme.indexOf("## How the parts"));
        for (var method : RingPlaces.class.getMethods()) {
            if (method.getDeclaringClass() == RingPlaces.class) {
                Checks.due("README.md names " + method.getName(), table.contains("`" + method.getName() + "`"), true);
            }
        }
        Checks.finish();
    }

    /** The first block of such a kind. */
    private static String block(String readme, String kind) {
        String head = "```" + kind + "\n";
        int from = readme.indexOf(head) + head.length();
        return readme.substring(from, readme.indexOf("```", from));
    }

    private static String printedBy(String source) throws Exception {
        Path dir = Files.createTempDirectory("readme");
        try {
            Path file = dir.resolve("Example.java");
            Files.writeString(file, source, StandardCharsets.UTF_8);
            int code = new ProcessBuilder("javac", "-cp", System.getProperty("java.class.path"), "-d", dir.toString(),
                file.toString()).inheritIO().start().waitFor();
            return code == 0 ? printedByClass(dir) : "does not compile";
        } finally {
            remove(dir);
        }
    }

    private static String printedByClass(Path dir) throws Exception {
        ByteArrayOutputStream bytes = new ByteArrayOutputStream();
        PrintStream ahead = System.out;
        try (URLClassLoader loader = new URLClassLoader(new URL[] {dir.toUri().toURL()})) {
            System.setOut(new PrintStream(bytes, true, StandardCharsets.UTF_8));
            loader.loadClass("Example").getMethod("main", String[].class).invoke(null, (Object) new String[0]);
        } finally {
            System.setOut(ahead);
        }
        return bytes.toString(StandardCharsets.UTF_8).replace("\r\n", "\n");
    }

    private static void remove(Path dir) throws IOException {
        try (Stream<Path> all = Files.walk(dir)) {
            for (Path path : all.sorted(Comparator.reverseOrder()).toList()) {
                Files.delete(path);
            }
        }
    }
}
