import java.io.IOException;
import java.io.UncheckedIOException;
import java.nio.file.Files;
import java.nio.file.Path;
import java.util.LinkedHashMap;
import java.util.Map;

/**
 * ../shared/DOC.md by its sections: "What it is", "Terms", "part 1" to "part 3" (the numbered parts of
 * the terms), "Promise 1" to "Promise 31". Tests say which sentence they are of; here it is looked up.
 */
final class Document {
    private static final Path FILE = Path.of("../shared/DOC.md");
    private static final Map<String, String> SECTIONS = read();

    private Document() {
    }

    static boolean says(String section, String words) {
        return textOf(section).contains(words);
    }

    static String textOf(String section) {
        return SECTIONS.getOrDefault(section, "");
    }

    private static Map<String, String> read() {
        Map<String, String> sections = new LinkedHashMap<>();
        String section = "";
        try {
            for (String line : Files.readAllLines(FILE)) {
                section = sectionFrom(line, section);
                String before = sections.getOrDefault(section, "");
                sections.put(section, (before + " " + line.trim()).trim().replaceAll("\\s+", " "));
            }
        } catch (IOException e) {
            throw new UncheckedIOException(e);
        }
        return sections;
    }

    private static String sectionFrom(String line, String before) {
        if (line.startsWith("## ")) {
            return line.substring(3).replaceAll(":.*", "");
        }
        return line.startsWith("======== ") ? "part " + line.charAt(9) : before;
    }
}
