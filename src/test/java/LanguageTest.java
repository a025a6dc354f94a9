import java.io.IOException;
import java.lang.management.ManagementFactory;
import java.lang.reflect.Field;
import java.lang.reflect.Method;
import java.lang.reflect.Modifier;
import java.nio.file.Files;
import java.nio.file.Path;
import java.util.ArrayList;
import java.util.List;
import java.util.Set;
import java.util.TreeSet;
import java.util.regex.Matcher;
import java.util.regex.Pattern;

/** The rules of LANGUAGE.md that can be seen from the source, from the compiled class, or from the room that calls take. */
public final class LanguageTest {
    private static final Check CHECK = new Check("LanguageTest");
    private static final Path SOURCE = Path.of("src/main/java/DiskDrawer.java");
    private static final Set<String> FACE = Set.of(
        "int set(int,int)", "int read(int,int)", "int drop(int)", "int fail(int)", "int replace(int)", "int fuse()",
        "int run(int)", "int type(char)", "int clearText()", "int perform()", "int undo()", "int keep()",
        "int restore()", "int disk(int,int)", "int readOf(int,int)", "int couldStart()", "int answeredIn(int)",
        "int ifAtOnce(int,int)", "int bestAtOnce()", "int count(int)");
    private static final Set<String> CONSTANTS = Set.of("UNKNOWN", "BAD_VALUE", "FULL", "NOT_POSSIBLE", "NONE");

    public static void main(String[] args) throws IOException {
        String code = withoutCommentsAndTexts(Files.readString(SOURCE));
        wordsThatAreNotInTheLanguage(code);
        lengths(code);
        face();
        classesInside();
        roomOfCalls();
        CHECK.end();
    }

    private static String withoutCommentsAndTexts(String source) {
        return source.replaceAll("(?s)/\\*.*?\\*/", "").replaceAll("//[^\n]*", "")
            .replaceAll("\"(?:[^\"\\\\]|\\\\.)*\"", "\"\"").replaceAll("'(?:[^'\\\\]|\\\\.)'", "' '");
    }

    private static void wordsThatAreNotInTheLanguage(String code) {
        String[] words = {
            "package", "import", "throw", "throws", "try", "catch", "finally", "synchronized", "assert", "float",
            "double", "System", "Object", "Thread", "Random", "var", "yield", "toString", "hashCode", "\\w+Exact",
        };
        for (String word : words) {
            CHECK.holds("no " + word, !Pattern.compile("\\b" + word + "\\b").matcher(code).find());
        }
        CHECK.holds("no lambda, no arrow", !code.contains("->"));
        CHECK.holds("no method reference", !code.contains("::"));
        CHECK.holds("no sign above 127", code.chars().allMatch(sign -> sign < 128));
        CHECK.holds("no text joined by +", !code.contains("\"\" +") && !code.contains("+ \"\""));
    }

    private static void lengths(String code) {
        String[] lines = code.split("\n");
        int begin = -1;
        for (int line = 0; line < lines.length; line++) {
            if (begin < 0 && lines[line].matches(" {4,8}[a-zA-Z].*\\) \\{")) {
                begin = line;
            } else if (begin >= 0 && lines[line].matches(" {4,8}\\}")) {
                CHECK.holds("method in lines " + begin + " to " + line + " is short", line - begin <= 60);
                begin = -1;
            }
        }
        Matcher loops = Pattern.compile("while \\(true\\)|for \\(;;\\)|for \\([^;)]*;\\s*;").matcher(code);
        CHECK.holds("no loop without an end", !loops.find());
    }

    private static String told(Method method) {
        List<String> parameters = new ArrayList<>();
        for (Class<?> parameter : method.getParameterTypes()) {
            parameters.add(parameter.getName());
        }
        return method.getReturnType().getName() + " " + method.getName() + "(" + String.join(",", parameters) + ")";
    }

    private static void face() {
        Set<String> methods = new TreeSet<>();
        for (Method method : DiskDrawer.class.getDeclaredMethods()) {
            if (Modifier.isPrivate(method.getModifiers())) {
                continue;
            }
            CHECK.due(method + " is public", method.getModifiers(), Modifier.PUBLIC);
            methods.add(told(method));
        }
        CHECK.same("the methods", methods.toString(), new TreeSet<>(FACE).toString());
        Set<String> constants = new TreeSet<>();
        for (Field field : DiskDrawer.class.getDeclaredFields()) {
            if (!Modifier.isPrivate(field.getModifiers())) {
                CHECK.due(field.toString(), field.getModifiers(), Modifier.PUBLIC | Modifier.STATIC | Modifier.FINAL);
                constants.add(field.getName());
            }
        }
        CHECK.same("the constants", constants.toString(), new TreeSet<>(CONSTANTS).toString());
        CHECK.due("the class", DiskDrawer.class.getModifiers(), Modifier.PUBLIC | Modifier.FINAL);
        CHECK.due("constructors", DiskDrawer.class.getDeclaredConstructors().length, 1);
        CHECK.due("public ones", DiskDrawer.class.getConstructors().length, 1);
        CHECK.holds("nothing above it", DiskDrawer.class.getSuperclass() == Object.class);
        CHECK.due("interfaces", DiskDrawer.class.getInterfaces().length, 0);
    }

    private static void classesInside() {
        List<Class<?>> classes = new ArrayList<>(List.of(DiskDrawer.class.getDeclaredClasses()));
        CHECK.holds("few classes", classes.size() <= 12);
        for (Class<?> inside : classes) {
            CHECK.holds(inside + " is static", Modifier.isStatic(inside.getModifiers()));
            CHECK.holds(inside + " is hidden", (inside.getModifiers() & (Modifier.PUBLIC | Modifier.PROTECTED)) == 0);
            CHECK.due("classes in " + inside, inside.getDeclaredClasses().length, 0);
        }
        classes.add(DiskDrawer.class);
        for (Class<?> each : classes) {
            int fields = 0;
            for (Field field : each.getDeclaredFields()) {
                boolean isStatic = Modifier.isStatic(field.getModifiers());
                CHECK.holds(field + " is final if static", !isStatic || Modifier.isFinal(field.getModifiers()));
                fields += isStatic ? 0 : 1;
            }
            CHECK.holds("few fields in " + each, fields <= 20);
            for (Method method : each.getDeclaredMethods()) {
                CHECK.holds(method + " takes few parameters", method.getParameterCount() <= 7);
                boolean namedAsPublic = FACE.stream().anyMatch(name -> name.contains(" " + method.getName() + "("));
                CHECK.holds(method + " has a name of its own", each == DiskDrawer.class
                    ? namedAsPublic == Modifier.isPublic(method.getModifiers()) : !namedAsPublic);
            }
        }
    }

    /** What calls make is counted; these make nothing. */
    private static void roomOfCalls() {
        com.sun.management.ThreadMXBean threads =
            (com.sun.management.ThreadMXBean) ManagementFactory.getThreadMXBean();
        int sum = mixedCalls(new DiskDrawer());
        DiskDrawer drawer = new DiskDrawer();
        long before = threads.getCurrentThreadAllocatedBytes();
        sum -= mixedCalls(drawer);
        long used = threads.getCurrentThreadAllocatedBytes() - before;
        CHECK.due("the same calls answer the same", sum, 0);
        CHECK.holds("calls make nothing, but took " + used, used < 4096);
    }

    private static int mixedCalls(DiskDrawer drawer) {
        int sum = 0;
        drawer.type('f');
        drawer.type('u');
        drawer.type('s');
        drawer.type('e');
        for (int turn = 0; turn < 31; turn++) {
            sum += drawer.set(turn % 10, turn) + drawer.read(turn % 12, turn) + drawer.drop(turn / 2);
            sum += drawer.fail(turn % 5) + drawer.run(turn) + drawer.perform() + drawer.keep() + drawer.restore();
            sum += drawer.undo() + drawer.answeredIn(turn) + drawer.ifAtOnce(3, turn % 3) + drawer.bestAtOnce();
            sum += drawer.couldStart() + drawer.count(turn) + drawer.replace(turn % 7) + drawer.fuse();
        }
        return sum;
    }
}
