import java.io.IOException;
import java.nio.file.Files;
import java.nio.file.Path;
import java.util.ArrayList;
import java.util.LinkedHashMap;
import java.util.List;
import java.util.Map;

/** The words of ../shared/DOC.md that promise something, and which of them a test has quoted. */
final class Document {
    private static final Path PLACE = Path.of("../shared/DOC.md");

    private final Map<String, String> words = new LinkedHashMap<>();
    private final Map<String, boolean[]> quoted = new LinkedHashMap<>();

    Document() {
        try {
            for (String part : Files.readString(PLACE).split("(?m)^## ")) {
                keep(part.substring(0, Math.max(0, part.indexOf('\n'))), part.substring(part.indexOf('\n') + 1));
            }
        } catch (IOException e) {
            throw new IllegalStateException("no document at " + PLACE.toAbsolutePath(), e);
        }
    }

    /** A heading "Promise 2: text" is kept as "Promise 2"; what tells no promise is left out. */
    private void keep(String title, String body) {
        String heading = title.replaceAll(":.*", "");
        boolean isAbout = heading.equals("What it is");
        if (isAbout || heading.equals("Terms") || heading.startsWith("Promise ")) {
            String plain = (isAbout ? body.replaceAll("(?m)^Thin skins.*$", " ") : body).replaceAll("(?m)^```.*$", " ")
                .replaceAll("(?m)^Ahead of the calls.*$", " ")
                .replaceAll("(?m)^`[^`]*`: ", " ")
                .replaceAll("\\s+", " ");
            words.put(heading, plain);
            quoted.put(heading, new boolean[plain.length()]);
        }
    }

    /** Whether the words stand under the heading; they count as quoted from now on. */
    boolean quotes(String heading, String sentence) {
        int start = words.getOrDefault(heading, "").indexOf(sentence);
        for (int k = 0; start >= 0 && k < sentence.length(); k++) {
            quoted.get(heading)[start + k] = true;
        }
        return start >= 0;
    }

    int headings() {
        return words.size();
    }

    /** The pieces that no test has quoted. */
    List<String> left() {
        List<String> left = new ArrayList<>();
        for (Map.Entry<String, String> entry : words.entrySet()) {
            StringBuilder rest = new StringBuilder();
            boolean[] marks = quoted.get(entry.getKey());
            for (int k = 0; k < marks.length; k++) {
                rest.append(marks[k] ? '\n' : entry.getValue().charAt(k));
            }
            for (String piece : rest.toString().split("\n+")) {
                if (piece.matches(".*\\w.*")) {
                    left.add(entry.getKey() + ": " + piece.trim());
                }
            }
        }
        return left;
    }
}
