import java.io.IOException;
import java.lang.reflect.Method;
import java.lang.reflect.Modifier;
import java.nio.charset.StandardCharsets;
import java.nio.file.Files;
import java.nio.file.Path;
import java.nio.file.StandardCopyOption;
import java.util.List;

/** README.md holds what it says: its program compiles by its commands, and prints what stands there. */
public final class ReadmeTest {
    private static final Check CHECK = new Check("ReadmeTest");
    private static final Path PAGE = Path.of("README.md");
    private static final Path CLASS = Path.of("src/main/java/DiskDrawer.java");
    /** A folder like the checkout, so that the commands can be run as they stand. */
    private static final Path PLACE = Path.of("build/readme");

    public static void main(String[] args) throws IOException, InterruptedException {
        String page = Files.readString(PAGE);
        everyMethodIsNamed(page);
        theProgram(page);
        theOneTestAlone(page);
        CHECK.end();
    }

    private static void everyMethodIsNamed(String page) {
        for (Method method : DiskDrawer.class.getDeclaredMethods()) {
            if (Modifier.isPublic(method.getModifiers())) {
                CHECK.holds("README.md names " + method.getName(), page.contains("`" + method.getName() + "`"));
            }
        }
    }

    private static void theProgram(String page) throws IOException, InterruptedException {
        Path copy = PLACE.resolve(CLASS);
        Files.createDirectories(copy.getParent());
        Files.copy(CLASS, copy, StandardCopyOption.REPLACE_EXISTING);
        Files.writeString(PLACE.resolve("Example.java"), block(page, "java"));
        List<String> commands = page.lines().filter(line -> line.matches(" {4}javac? .*\\bout\\b.*")).toList();
        CHECK.due("commands for the program", commands.size(), 2);
        String printed = "";
        for (String command : commands) {
            printed = printedBy(command.trim());
        }
        CHECK.same("the program", printed, block(page, "text"));
    }

    private static void theOneTestAlone(String page) {
        List<String> commands = page.lines().filter(line -> line.startsWith("    java -cp build/")).toList();
        CHECK.due("commands for one test", commands.size(), 1);
        for (String command : commands) {
            String test = command.substring(command.lastIndexOf(' ') + 1);
            CHECK.holds("there is a " + test, Files.exists(Path.of("src/test/java", test + ".java")));
        }
    }

    /** The lines of the first block that is marked so. */
    private static String block(String page, String mark) {
        String begin = "\n```" + mark + "\n";
        int from = page.indexOf(begin);
        int to = page.indexOf("\n```\n", from + begin.length());
        CHECK.holds("README.md has a block of " + mark, from >= 0 && to >= 0);
        return from >= 0 && to >= 0 ? page.substring(from + begin.length(), to + 1) : "";
    }

    private static String printedBy(String command) throws IOException, InterruptedException {
        Process process = new ProcessBuilder(command.split(" ")).directory(PLACE.toFile())
            .redirectError(ProcessBuilder.Redirect.INHERIT).start();
        String printed = new String(process.getInputStream().readAllBytes(), StandardCharsets.UTF_8);
        CHECK.due(command, process.waitFor(), 0);
        return printed.replace("\r\n", "\n");
    }
}
