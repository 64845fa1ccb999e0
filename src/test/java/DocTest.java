import java.io.IOException;
import java.nio.file.Files;
import java.nio.file.Path;
import java.util.ArrayList;
import java.util.List;
import java.util.regex.Matcher;
import java.util.regex.Pattern;
import java.util.stream.Stream;

/** Each word of the document's terms and promises stands in a sentence that an edge test names. */
final class DocTest {
    private static final Path TESTS = Path.of("src/test/java");
    private static final Pattern NAMED = Pattern.compile("\\.of\\(\\s*\"([^\"]+)\",\\s*\"((?:[^\"\\\\]|\\\\.)*)\"\\)");
    private static final String[] TERMS = {"The scene", "Told distances", "Settings", "Texts", "Changes and errors"};
    private static final int PROMISES = 26;

    private final Due due = new Due("DocTest");
    private final Doc doc = new Doc();
    private final List<String[]> named = new ArrayList<>();

    private DocTest() {
    }

    public static void main(String[] args) throws IOException {
        DocTest test = new DocTest();
        test.readTests();
        for (String section : TERMS) {
            test.lookAt(section);
        }
        for (int promise = 1; promise <= PROMISES; promise++) {
            test.lookAt("Promise " + promise);
        }
        test.due.end();
    }

    private void readTests() throws IOException {
        try (Stream<Path> files = Files.list(TESTS)) {
            for (Path file : files.filter(one -> one.toString().endsWith("EdgesTest.java")).sorted().toList()) {
                Matcher matcher = NAMED.matcher(Files.readString(file));
                while (matcher.find()) {
                    named.add(new String[] {matcher.group(1), matcher.group(2).replace("\\\"", "\"")});
                }
            }
        }
        // Longer words go first, so that shorter ones do not break them.
        named.sort((one, other) -> other[1].length() - one[1].length());
    }

    private void lookAt(String section) {
        String left = doc.section(section)
            .replaceFirst("`[a-zA-Z ]*\\([^`]*\\)`:", "")
            .replace("Spacings, echoes", "")
            .replace("The constants:", "")
            .replaceAll("Ahead of the calls [^:]*:", "")
            .replaceAll("---- (?:the scene|texts|history, snapshot)\\.", "");
        due.same("the document has the section " + section, left.isBlank() ? 1 : 0, 0);
        for (String[] one : named) {
            if (one[0].equals(section)) {
                left = left.replace(one[1], "|");
            }
        }
        String words = left.replaceAll("[|\\s]+", " ").strip();
        boolean none = words.chars().noneMatch(Character::isLetterOrDigit);
        due.same(section + " says what no edge test names: " + words, none ? 1 : 0, 1);
    }
}
