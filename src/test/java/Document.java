import java.io.IOException;
import java.nio.file.Files;
import java.nio.file.Path;
import java.util.ArrayList;
import java.util.LinkedHashMap;
import java.util.List;
import java.util.Map;

/** The document by its headings, and which of its words a test has quoted. */
final class Document {
    private final Map<String, String> texts = new LinkedHashMap<>();
    private final Map<String, boolean[]> quoted = new LinkedHashMap<>();

    Document(Path path) throws IOException {
        String heading = "";
        Map<String, StringBuilder> found = new LinkedHashMap<>();
        for (String line : Files.readAllLines(path)) {
            if (line.startsWith("## ")) {
                heading = line.substring(3).split(":")[0];
                found.put(heading, new StringBuilder());
            } else if (found.containsKey(heading) && !line.startsWith("```") && !line.startsWith("Ahead of the calls")) {
                found.get(heading).append(line).append(' ');
            }
        }
        for (Map.Entry<String, StringBuilder> entry : found.entrySet()) {
            String text = entry.getValue().toString().replaceAll("\\s+", " ").strip();
            texts.put(entry.getKey(), text);
            quoted.put(entry.getKey(), new boolean[text.length()]);
        }
    }

    /** Marks words under a heading as quoted; false if they aren't there. */
    boolean quote(String heading, String words) {
        String text = texts.get(heading);
        if (text == null) {
            return false;
        }
        int at = text.indexOf(words);
        boolean there = at >= 0;
        while (at >= 0) {
            for (int n = 0; n < words.length(); n++) {
                quoted.get(heading)[at + n] = true;
            }
            at = text.indexOf(words, at + 1);
        }
        return there;
    }

    /** What no test quotes of the terms and the promises, but for the calls' own lines and the terms' numbers. */
    List<String> notQuoted() {
        List<String> left = new ArrayList<>();
        for (String heading : texts.keySet()) {
            if (heading.equals("Terms") || heading.startsWith("Promise ")) {
                collect(heading, left);
            }
        }
        return left;
    }

    private void collect(String heading, List<String> left) {
        String text = texts.get(heading);
        int at = heading.equals("Terms") ? 0 : text.indexOf("`:") + 2;
        StringBuilder piece = new StringBuilder();
        for (; at <= text.length(); at++) {
            if (at < text.length() && !quoted.get(heading)[at]) {
                piece.append(text.charAt(at));
            } else {
                if (piece.chars().anyMatch(Character::isLetter)) {
                    left.add(heading + ": " + piece);
                }
                piece.setLength(0);
            }
        }
    }
}
