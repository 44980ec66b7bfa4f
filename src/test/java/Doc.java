import java.io.IOException;
import java.nio.file.Files;
import java.nio.file.Path;
import java.util.ArrayList;
import java.util.LinkedHashMap;
import java.util.List;
import java.util.Map;

/** The document's own words, section by section, and which of them a test has borne. */
final class Doc {
    private final Map<String, String> sections = new LinkedHashMap<>();
    private final Map<String, boolean[]> borne = new LinkedHashMap<>();

    static Doc read(Path path) throws IOException {
        Doc doc = new Doc();
        StringBuilder text = new StringBuilder();
        String section = "";
        for (String line : Files.readAllLines(path)) {
            if (line.startsWith("## ")) {
                doc.keep(section, text.toString());
                section = line.substring(3);
                text.setLength(0);
            } else if (!line.startsWith("```")) {
                text.append(' ').append(line);
            }
        }
        doc.keep(section, text.toString());
        return doc;
    }

    /** Terms and promises alone, without what parts them and without a method's own line. */
    private void keep(String section, String text) {
        if (section.equals("Terms") || section.startsWith("Promise ")) {
            String words = text.replaceAll("==== \\d\\.", " ").replaceAll("\\s+", " ").strip();
            words = section.equals("Terms") ? words : words.replaceFirst("^`[^`]*`: ", "");
            sections.put(section, words);
            borne.put(section, new boolean[words.length()]);
        }
    }

    int sections() {
        return sections.size();
    }

    /** Whether the section has these words; they are borne then. */
    boolean bear(String section, String words) {
        String all = sections.getOrDefault(section, "");
        int at = all.indexOf(words);
        for (int i = at; i >= 0 && i < at + words.length(); i++) {
            borne.get(section)[i] = true;
        }
        return at >= 0;
    }

    /** The stretches of words that no test has borne. */
    List<String> left() {
        List<String> left = new ArrayList<>();
        for (String section : sections.keySet()) {
            StringBuilder open = new StringBuilder();
            boolean[] marks = borne.get(section);
            for (int i = 0; i < marks.length; i++) {
                open.append(marks[i] ? '\n' : sections.get(section).charAt(i));
            }
            for (String stretch : open.toString().split("\n")) {
                if (!stretch.isBlank()) {
                    left.add(section + ": " + stretch.strip());
                }
            }
        }
        return left;
    }
}
