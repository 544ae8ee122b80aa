import java.io.IOException;
import java.nio.file.Files;
import java.nio.file.Path;
import java.util.ArrayList;
import java.util.LinkedHashMap;
import java.util.List;
import java.util.Map;

/** The parts of the document that say something, each as one line of text without headings and other marks. */
final class Doc {
    private static final Path FILE = Path.of("../shared/DOC.md");

    private Doc() {
    }

    /** 'What it is', 'Terms 1' to 'Terms 3', 'Promise 1: A new object' and so on; none where there is no document. */
    static Map<String, String> parts() {
        Map<String, String> parts = new LinkedHashMap<>();
        String part = "";
        for (String line : lines()) {
            String text = line.trim();
            if (line.startsWith("## ")) {
                part = line.substring(3).trim();
                text = "";
            } else if (line.startsWith("==== ")) {
                part = "Terms " + line.charAt(5);
                text = line.substring(6).trim();
            }
            boolean says = part.equals("What it is") || part.startsWith("Terms ") || part.startsWith("Promise ");
            if (says && !text.isEmpty() && !text.startsWith("```")) {
                parts.merge(part, text, (before, more) -> before + " " + more);
            }
        }
        return parts;
    }

    /** The lines of the public face, from the class's to the one that ends it. */
    static List<String> face() {
        List<String> face = new ArrayList<>();
        boolean inFace = false;
        for (String line : lines()) {
            inFace = inFace ? !line.equals("```") : line.equals("```java");
            if (inFace && !line.equals("```java")) {
                face.add(line);
            }
        }
        return face;
    }

    private static List<String> lines() {
        if (!Files.exists(FILE)) {
            return List.of();
        }
        try {
            return Files.readAllLines(FILE);
        } catch (IOException e) {
            throw new IllegalStateException(e);
        }
    }
}
