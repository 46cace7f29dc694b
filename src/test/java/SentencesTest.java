import java.io.IOException;
import java.nio.file.Files;
import java.nio.file.Path;
import java.util.ArrayList;
import java.util.List;
import java.util.regex.Pattern;

/**
 * src/test/SENTENCES.md has each sentence of the document, from the first to the last, and below each
 * the tests that show it: a named case, or a method, of a class of tests that is there.
 */
public final class SentencesTest {
    private static final Path DOCUMENT = Path.of("../shared/DOC.md");
    private static final Path TABLE = Path.of("src/test/SENTENCES.md");
    private static final Path TESTS = Path.of("src/test/java");
    private static final String HEADING = "## ";
    private static final String SENTENCE = "> ";
    private static final Pattern TERM = Pattern.compile("[A-Z ]+");
    /** Behind a full stop (also in brackets), ahead of what begins a sentence. */
    private static final Pattern BETWEEN_SENTENCES = Pattern.compile("(?<=\\.|\\.\\))\\s+(?=[A-Z(`])");
    private static final Checks CHECKS = new Checks();

    public static void main(String[] args) throws IOException {
        List<String> table = Files.readAllLines(TABLE);
        dueInOrder(listed(table), sentences(Files.readAllLines(DOCUMENT)));
        eachHasTests(table);
        for (String line : table) {
            if (line.startsWith("- ") && !line.startsWith("- (")) {
                dueToBeThere(line.substring(2));
            }
        }
        CHECKS.end();
    }

    /** The headings and the sentences of the document; its face, a block of code, is for FaceTest. */
    private static List<String> sentences(List<String> lines) {
        List<String> found = new ArrayList<>();
        boolean isCode = false;
        for (String line : lines) {
            isCode ^= line.startsWith("```");
            if (isCode || line.isBlank() || line.startsWith("```")) {
                continue;
            }
            if (line.startsWith("#") || TERM.matcher(line).matches()) {
                found.add(HEADING + line.replaceFirst("^#+ ", ""));
                continue;
            }
            for (String sentence : BETWEEN_SENTENCES.split(line.strip())) {
                found.add(SENTENCE + sentence);
            }
        }
        return found;
    }

    private static List<String> listed(List<String> table) {
        List<String> found = new ArrayList<>();
        for (String line : table) {
            if (line.startsWith(HEADING) || line.startsWith(SENTENCE)) {
                found.add(line);
            }
        }
        return found;
    }

    private static void dueInOrder(List<String> got, List<String> want) {
        CHECKS.due("sentences and headings", got.size(), want.size());
        for (int at = 0; at < Math.max(got.size(), want.size()); at++) {
            String listed = at < got.size() ? got.get(at) : "nothing more";
            String told = at < want.size() ? want.get(at) : "nothing more";
            CHECKS.due("SENTENCES.md has: " + listed + "\nthe document has: " + told + "\nthe same (1)",
                listed.equals(told) ? 1 : 0, 1);
        }
    }

    private static void eachHasTests(List<String> table) {
        String latest = "";
        int tests = 1;
        for (String line : table) {
            if (line.startsWith(HEADING) || line.startsWith(SENTENCE)) {
                CHECKS.due("a sentence without a test (0): " + latest, tests == 0 ? 1 : 0, 0);
                latest = line;
                tests = line.startsWith(HEADING) ? 1 : 0;
            } else if (line.startsWith("- ")) {
                tests++;
            }
        }
        CHECKS.due("a sentence without a test (0): " + latest, tests == 0 ? 1 : 0, 0);
    }

    /** A row is the name of a class, ":" and the name of a case, or of a method with "()". */
    private static void dueToBeThere(String row) throws IOException {
        int end = row.indexOf(": ");
        Path file = TESTS.resolve(row.substring(0, Math.max(0, end)) + ".java");
        String test = row.substring(end + 2);
        boolean isThere = end > 0 && Files.exists(file) && isIn(Files.readString(file), test);
        CHECKS.due("a test that is there (1): " + row, isThere ? 1 : 0, 1);
    }

    private static boolean isIn(String source, String test) {
        if (test.endsWith("()")) {
            return source.contains(" void " + test.substring(0, test.length() - 1));
        }
        // What is put into a name, or stands behind it, is ".." in the table.
        String names = source.replace("\\\"", "''")
            .replaceAll("\"\\s*\\+\\s*[^\",]*?\\s*\\+\\s*\"", "..")
            .replaceAll("\"\\s*\\+\\s*\\w+,", "..\",");
        return names.contains("\"" + test.replace("\"", "''") + "\"");
    }
}
