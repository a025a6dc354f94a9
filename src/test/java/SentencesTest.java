import java.io.IOException;
import java.nio.file.Files;
import java.nio.file.Path;
import java.util.ArrayList;
import java.util.Arrays;
import java.util.List;
import java.util.regex.Matcher;
import java.util.regex.Pattern;
import java.util.stream.Stream;

/** Each sentence that the tests name stands in the document, and each sentence of the document is named by a test. */
public final class SentencesTest {
    private static final Check CHECK = new Check("SentencesTest");
    private static final Path DOCUMENT = Path.of("../shared/DOC.md");
    private static final Path TESTS = Path.of("src/test/java");
    private static final String TEXT = "\"((?:[^\"\\\\]|\\\\.)*)\"";
    private static final Pattern NAMED =
        Pattern.compile("sentence\\(\\s*(" + TEXT + "(?:\\s*\\+\\s*" + TEXT + ")*)\\s*\\);");
    /** What is left between two sentences that are named may be so long: a comma, an "and", a number. */
    private static final int LEFT_OVER = 12;

    public static void main(String[] args) throws IOException {
        if (!Files.exists(DOCUMENT)) {
            // The class can be tested without it; only what the tests are named by can not.
            System.out.println("SentencesTest: there is no " + DOCUMENT);
            return;
        }
        String whole = Files.readString(DOCUMENT);
        String promised = promised(whole);
        List<String> sentences = namedInTests();
        CHECK.holds("many sentences are named", sentences.size() > 100);
        boolean[] named = new boolean[promised.length()];
        for (String sentence : sentences) {
            CHECK.holds("the document says: " + sentence, asOneLine(whole).contains(sentence));
            mark(promised, sentence, named);
        }
        for (String rest : unnamed(promised, named)) {
            CHECK.holds("a test names: " + rest, false);
        }
        CHECK.end();
    }

    private static String asOneLine(String text) {
        return text.replaceAll("\\s+", " ").trim();
    }

    /** The terms and the promises, without headings, signatures, and what is said of groups of calls. */
    private static String promised(String document) {
        int begin = document.indexOf("\n## Terms");
        int end = document.indexOf("\n## Not promised");
        CHECK.holds("the document has its sections", begin >= 0 && end > begin);
        StringBuilder kept = new StringBuilder();
        for (String line : document.substring(Math.max(begin, 0), Math.max(end, 0)).split("\n")) {
            if (!line.startsWith("#") && !line.startsWith("Ahead of the calls") && !line.matches("[A-Z ]+")) {
                kept.append(line.replaceFirst("^`\\w* ?\\w+\\([\\w, ]*\\)`: ", "").replaceFirst("^(- )+|^\\d\\. ", ""));
                kept.append('\n');
            }
        }
        return asOneLine(kept.toString());
    }

    private static List<String> namedInTests() throws IOException {
        List<String> sentences = new ArrayList<>();
        List<Path> files;
        try (Stream<Path> found = Files.list(TESTS)) {
            files = found.filter(file -> file.toString().endsWith("Test.java")).sorted().toList();
        }
        for (Path file : files) {
            Matcher calls = NAMED.matcher(Files.readString(file));
            while (calls.find()) {
                StringBuilder sentence = new StringBuilder();
                Matcher texts = Pattern.compile(TEXT).matcher(calls.group(1));
                while (texts.find()) {
                    sentence.append(texts.group(1).replace("\\\"", "\""));
                }
                sentences.add(asOneLine(sentence.toString()));
            }
        }
        return sentences;
    }

    private static void mark(String document, String sentence, boolean[] named) {
        int at = document.indexOf(sentence);
        while (at >= 0) {
            Arrays.fill(named, at, at + sentence.length(), true);
            at = document.indexOf(sentence, at + 1);
        }
    }

    private static List<String> unnamed(String document, boolean[] named) {
        List<String> rests = new ArrayList<>();
        int begin = 0;
        for (int place = 0; place <= document.length(); place++) {
            if (place == document.length() || named[place]) {
                String rest = document.substring(begin, place).trim();
                if (rest.length() > LEFT_OVER) {
                    rests.add(rest);
                }
                begin = place + 1;
            }
        }
        return rests;
    }
}
