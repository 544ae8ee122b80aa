import java.io.IOException;
import java.nio.file.Files;
import java.nio.file.Path;
import java.util.LinkedHashMap;
import java.util.List;
import java.util.Map;

/** The parts of the document that promise something, each as one line of text. */
final class Doc {
    private static final Path FILE = Path.of("../shared/DOC.md");

    private Doc() {
    }

    /** 'Terms 1' to 'Terms 3', 'Promise 1: A new object' and so on; none where there is no document. */
    static Map<String, String> parts() {
        Map<String, String> parts = new LinkedHashMap<>();
        String part = "";
        for (String line : lines()) {
            if (line.startsWith("## ")) {
                part = line.substring(3).trim();
            } else if (line.startsWith("==== ")) {
                part = "Terms " + line.charAt(5);
            }
            if (part.startsWith("Promise ") || part.startsWith("Terms ")) {
                parts.merge(part, line.trim(), (text, more) -> text + " " + more);
            }
        }
        return parts;
    }

    private static List<String> lines() {
        if (!Files.exists(FILE)) {
            return List.of();
        }
        try {
            return Files.readAllLines(FILE);
        } catch (IOException e) {
            throw new IllegalStateException(e);
        }
    }
}
