import java.io.IOException;
import java.nio.file.Files;
import java.nio.file.Path;
import java.util.ArrayList;
import java.util.List;

/** The parts of README.md: blocks of code, and tables by the first word of their heads. */
final class Readme {
    private final List<String> lines;

    Readme(Path path) throws IOException {
        lines = Files.readAllLines(path);
    }

    /** The blocks of one language, each a list of lines. */
    List<List<String>> blocks(String language) {
        List<List<String>> blocks = new ArrayList<>();
        List<String> block = null;
        for (String line : lines) {
            if (line.startsWith("```")) {
                boolean opens = block == null;
                if (!opens || line.equals("```" + language)) {
                    block = opens ? new ArrayList<>() : null;
                }
                if (block != null) {
                    blocks.add(block);
                }
            } else if (block != null) {
                block.add(line);
            }
        }
        return blocks;
    }

    /** The rows of the table whose first column has this head, without the head; cells are bare. */
    List<String[]> table(String head) {
        List<String[]> rows = new ArrayList<>();
        boolean inside = false;
        for (String line : lines) {
            inside = line.startsWith("| " + head + " |") || inside && line.startsWith("|");
            if (inside && !line.startsWith("| " + head + " |") && !line.startsWith("|---")) {
                rows.add(line.substring(1, line.length() - 1).strip().split(" *\\| *"));
            }
        }
        return rows;
    }

    /** "1 to 5, 7" as its numbers. */
    static List<Integer> numbers(String told) {
        List<Integer> numbers = new ArrayList<>();
        for (String range : told.split(", ")) {
            String[] ends = range.split(" to ");
            for (int i = Integer.parseInt(ends[0]); i <= Integer.parseInt(ends[ends.length - 1]);
                i++) {
                numbers.add(i);
            }
        }
        return numbers;
    }
}
