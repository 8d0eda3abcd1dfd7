import java.io.IOException;
import java.io.UncheckedIOException;
import java.nio.file.Files;
import java.nio.file.Path;
import java.util.ArrayList;
import java.util.List;

/** README.md: the lines of its Java blocks, one program from top to bottom, and all its other lines. */
final class Readme {
    final List<String> program = new ArrayList<>();
    final List<String> prose = new ArrayList<>();

    Readme() {
        boolean inBlock = false;
        boolean isJava = false;
        for (String line : linesOf(Path.of("README.md"))) {
            if (line.startsWith("```")) {
                inBlock = !inBlock;
                isJava = line.equals("```java");
            } else if (inBlock && isJava) {
                program.add(line);
            } else {
                prose.add(line);
            }
        }
    }

    /** The rows of a table, cell by cell, whose first cell is a match. */
    List<String[]> rows(String firstCell) {
        List<String[]> rows = new ArrayList<>();
        for (String line : prose) {
            if (line.startsWith("| ")) {
                String[] cells = line.substring(1).split("\\|", -1);
                for (int i = 0; i < cells.length; i++) {
                    cells[i] = cells[i].trim();
                }
                if (cells[0].matches(firstCell)) {
                    rows.add(cells);
                }
            }
        }
        return rows;
    }

    private static List<String> linesOf(Path file) {
        try {
            return Files.readAllLines(file);
        } catch (IOException e) {
            throw new UncheckedIOException(e);
        }
    }
}
