import java.io.IOException;
import java.nio.file.DirectoryStream;
import java.nio.file.Files;
import java.nio.file.Path;
import java.util.ArrayList;
import java.util.List;
import java.util.regex.Matcher;
import java.util.regex.Pattern;

/**
 * Every sentence of the document's 'Terms' and promises is quoted by a test, and what a test quotes stands there.
 * A row is cut into sentences at its full stops and semicolons (the two stops of '0 .. 9' are none).
 */
public final class SentencesTest {
    private static final Path DOCUMENT = Path.of("../shared/DOC.md");
    private static final Path TESTS = Path.of("src/test/java");
    private static final Pattern QUOTE = Pattern.compile("Check\\.says\\(\"([^\"]*)\"\\)");

    public static void main(String[] args) throws IOException {
        List<String> quotes = quotes();
        String document = flat(Files.readString(DOCUMENT));
        for (String quote : quotes) {
            Check.due("the document has \"" + quote + "\"", document.contains(quote) ? 1 : 0, 1);
        }
        for (String row : rows()) {
            for (String sentence : row.split("(?<=[^ .][.;]) ")) {
                Check.due("a test quotes \"" + sentence + "\" of \"" + row + "\"", isQuoted(sentence, row, quotes) ? 1 : 0, 1);
            }
        }
        Check.end();
    }

    private static String flat(String text) {
        return text.replaceAll("\\s+", " ");
    }

    private static List<String> quotes() throws IOException {
        List<String> all = new ArrayList<>();
        try (DirectoryStream<Path> files = Files.newDirectoryStream(TESTS, "*Test.java")) {
            for (Path file : files) {
                Matcher m = QUOTE.matcher(Files.readString(file));
                while (m.find()) {
                    all.add(m.group(1));
                }
            }
        }
        return all;
    }

    /** The rows of 'Terms' and of the promises, without their marks and signatures. */
    private static List<String> rows() throws IOException {
        List<String> all = new ArrayList<>();
        boolean inside = false;
        for (String row : Files.readString(DOCUMENT).split("\n")) {
            if (row.startsWith("## ")) {
                inside = row.equals("## Terms") || row.startsWith("## Promise");
            } else if (inside && !row.startsWith("```") && !row.startsWith("Ahead of the calls")) {
                String plain = flat(row.replaceAll("^`[^`]*`:", "").replaceAll("^==== \\d", "")).trim();
                if (!plain.isEmpty()) {
                    all.add(plain);
                }
            }
        }
        return all;
    }

    /** A test quotes the sentence, or a part of it, from that row: many rows have a sentence like "UNKNOWN." */
    private static boolean isQuoted(String sentence, String row, List<String> quotes) {
        for (String quote : quotes) {
            if (row.contains(quote) && (quote.contains(sentence) || sentence.contains(quote))) {
                return true;
            }
        }
        return false;
    }
}
