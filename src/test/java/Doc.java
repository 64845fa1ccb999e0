import java.io.IOException;
import java.io.UncheckedIOException;
import java.nio.file.Files;
import java.nio.file.Path;

/** The sections of the document, as they are written. */
final class Doc {
    private static final Path FILE = Path.of("../shared/DOC.md");

    private final String[] sections;

    Doc() {
        try {
            sections = Files.readString(FILE).split("(?m)^#+ ");
        } catch (IOException fault) {
            throw new UncheckedIOException(fault);
        }
    }

    /** The text of the section with this heading, as "Texts", or as "Promise 2" without the name behind it; empty if there is none. */
    String section(String heading) {
        for (String section : sections) {
            if (section.startsWith(heading + "\n") || section.startsWith(heading + ":")) {
                return section.substring(section.indexOf('\n') + 1);
            }
        }
        return "";
    }
}
