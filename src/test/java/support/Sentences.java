import java.io.IOException;
import java.io.UncheckedIOException;
import java.nio.file.Files;
import java.nio.file.Path;
import java.util.ArrayList;
import java.util.List;

/** The sentences of one section of the document, without its marks. */
final class Sentences {
    private static final Path DOCUMENT = Path.of("../shared/DOC.md");

    private Sentences() {
    }

    /** The section whose title begins so. A line that only leads into a list is no sentence. */
    static List<String> of(String section) {
        List<String> found = new ArrayList<>();
        boolean inside = false;
        for (String line : lines()) {
            if (line.startsWith("## ")) {
                inside = line.matches("## " + section + "\\b.*");
            } else if (inside) {
                for (String sentence : plain(line).split("(?<=[^ .]\\.) ")) {
                    if (!sentence.isEmpty() && !sentence.endsWith(":")) {
                        found.add(sentence);
                    }
                }
            }
        }
        return found;
    }

    private static List<String> lines() {
        try {
            return Files.readAllLines(DOCUMENT);
        } catch (IOException fault) {
            throw new UncheckedIOException(fault);
        }
    }

    private static String plain(String line) {
        return line.replaceFirst("^(\\d+\\.|-) ", "")
            .replaceFirst("^\\*\\*[^*]*\\.\\*\\* ", "")
            .replace("**", "")
            .replace("`", "");
    }
}
