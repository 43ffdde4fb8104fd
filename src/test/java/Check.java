import java.io.IOException;
import java.nio.charset.StandardCharsets;
import java.nio.file.Files;
import java.nio.file.Path;

/** What the tests share: answers that are due, and texts put on the tape. */
final class Check {
    private static int wrong = 0;
    private static int looked = 0;
    private static String sentence = "";
    private static final String DOCUMENT = document();

    private Check() {
    }

    static void due(String call, long got, long want) {
        looked++;
        if (got != want) {
            wrong++;
            if (wrong <= 40) {
                System.out.println(sentence + call + " answered " + got + ", due is " + want);
            }
        }
    }

    /** The document with one blank between words, or nothing where it isn't at hand. */
    private static String document() {
        Path path = Path.of(System.getProperty("sandhold.document", "../shared/DOC.md"));
        try {
            return Files.exists(path) ? Files.readString(path).replaceAll("\\s+", " ") : "";
        } catch (IOException e) {
            return "";
        }
    }

    /** What is looked at from here on is this sentence, which stands in the document word by word. */
    static void says(String words) {
        sentence = "[" + words + "] ";
        dueTrue("not in the document: it", DOCUMENT.isEmpty() || DOCUMENT.contains(words));
    }

    static void dueTrue(String what, boolean holds) {
        due(what, holds ? 1 : 0, 1);
    }

    /** The bytes of a text, filled up with blanks to whole feeds of twenty. */
    static byte[] padded(String text) {
        byte[] bytes = text.getBytes(StandardCharsets.ISO_8859_1);
        byte[] all = new byte[(bytes.length + 19) / 20 * 20];
        java.util.Arrays.fill(all, (byte) 32);
        System.arraycopy(bytes, 0, all, 0, bytes.length);
        return all;
    }

    static int four(byte[] bytes, int at) {
        return (bytes[at] & 255) << 24 | (bytes[at + 1] & 255) << 16 | (bytes[at + 2] & 255) << 8 | bytes[at + 3] & 255;
    }

    static void feed(SandHold x, String text) {
        byte[] all = padded(text);
        for (int i = 0; i < all.length; i += 20) {
            x.feed(four(all, i), four(all, i + 4), four(all, i + 8), four(all, i + 12), four(all, i + 16));
        }
    }

    static int shore(SandHold x, String text) {
        feed(x, text);
        return x.shore(text.length());
    }

    /** A new object whose shore is that text. */
    static SandHold with(String text) {
        SandHold x = new SandHold();
        int lines = shore(x, text);
        if (lines < 0) {
            due("shore of " + text, lines, 1);
        }
        return x;
    }

    static void tray(SandHold x, int tray, long... numbers) {
        due("numbers", x.numbers(tray, 3, numbers.length), 0);
        for (int i = 0; i < numbers.length; i++) {
            due("write", x.write(tray, i, numbers[i]), numbers[i]);
        }
    }

    static void end(String name) {
        System.out.println(name + ": " + looked + " answers, " + wrong + " wrong");
        if (wrong != 0) {
            System.exit(1);
        }
    }
}
