import java.io.IOException;
import java.nio.file.Files;
import java.nio.file.Path;
import java.util.ArrayList;
import java.util.List;
import java.util.regex.Matcher;
import java.util.regex.Pattern;
import java.util.stream.Stream;

/** Each sentence of the document's terms and promises is quoted by a test of its boundary cases. */
public final class SentencesTest {
    private static List<String> quotes(Path tests) throws IOException {
        List<String> found = new ArrayList<>();
        Pattern says = Pattern.compile("Check\\.says\\(\"(.*?)\"\\);");
        try (Stream<Path> files = Files.list(tests)) {
            for (Path file : (Iterable<Path>) files::iterator) {
                Matcher m = says.matcher(Files.readString(file));
                while (m.find()) {
                    found.add(m.group(1));
                }
            }
        }
        return found;
    }

    /** The document with what is quoted struck out by as many marks. */
    private static String struck(String document, List<String> quotes) {
        StringBuilder left = new StringBuilder(document);
        for (String quote : quotes) {
            for (int at = document.indexOf(quote); at >= 0; at = document.indexOf(quote, at + 1)) {
                for (int i = at; i < at + quote.length(); i++) {
                    left.setCharAt(i, '~');
                }
            }
        }
        return left.toString();
    }

    private static String section(String text, String from, String to) {
        int begin = text.indexOf(from);
        int end = text.indexOf(to);
        return begin < 0 || end < begin ? "no such section: " + from : text.substring(begin + from.length(), end);
    }

    /** What of a section no test quotes, but for signatures, marks and heads. */
    private static String unquoted(String section) {
        return section.replaceAll("`(int|long) .*?`", "").replaceAll("```text|```|==== [23]\\.", "").replaceAll("[~:; ]+", " ").trim();
    }

    public static void main(String[] args) throws IOException {
        Path document = Path.of(System.getProperty("sandhold.document", "../shared/DOC.md"));
        Path tests = Path.of(System.getProperty("sandhold.tests", "src/test/java"));
        String text = struck(Files.readString(document).replaceAll("\\s+", " "), quotes(tests));
        // its first sentence tells in short what the others tell; FaceTest has the face and what stands ahead of the calls
        String left = unquoted(section(text, "images to go on from. ==== 1.", "what later calls answer is free."));
        Check.dueTrue("no test quotes of what it is: " + left, left.isEmpty());
        left = unquoted(section(text, "## Terms", "Ahead of the calls"));
        Check.dueTrue("no test quotes of the terms: " + left, left.isEmpty());
        for (int promise = 1; promise <= 46; promise++) {
            String next = promise < 46 ? "## Promise " + (promise + 1) + ":" : "## Not promised";
            left = unquoted(section(text, "## Promise " + promise + ":", next).replaceFirst(" [\\w ]+", ""));
            Check.dueTrue("no test quotes of promise " + promise + ": " + left, left.isEmpty());
        }
        Check.end("SentencesTest");
    }
}
