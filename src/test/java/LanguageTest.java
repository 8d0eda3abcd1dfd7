import java.io.IOException;
import java.nio.file.Files;
import java.nio.file.Path;
import java.util.ArrayList;
import java.util.List;
import java.util.regex.Matcher;
import java.util.regex.Pattern;

/** LANGUAGE.md, as far as a look at the lines of the one file can tell. Run from the project's folder. */
public final class LanguageTest {
    private static final String[] FORBIDDEN = {"\\bthrow\\b", "\\bthrows\\b", "\\btry\\b", "\\bcatch\\b",
        "\\bsynchronized\\b", "\\bassert\\b", "->", "::", "^package\\b", "\\bprotected\\b", "Exact\\(", "\\bInteger\\.[A-Z]",
        "\\bhashCode\\b", "\\btoString\\b", "\\bwhile \\(true\\)", "for \\(;;\\)", "\\bimport\\b", "\\blong\\[\\]\\[\\]\\["};

    public static void main(String[] args) throws IOException {
        List<String> lines = withoutComments(Files.readAllLines(Path.of("src/main/java/DecreedStreets.java")));
        for (String word : FORBIDDEN) {
            Pattern pattern = Pattern.compile(word);
            for (int i = 0; i < lines.size(); i++) {
                Due.is("line " + (i + 1) + " has " + word, pattern.matcher(lines.get(i)).find() ? 1 : 0, 0);
            }
        }
        lengthsOfMethods(lines);
        classesInside(lines);
        Due.end();
    }

    private static List<String> withoutComments(List<String> lines) {
        List<String> code = new ArrayList<>();
        boolean inComment = false;
        for (String line : lines) {
            String text = line.replaceAll("//.*", "").replaceAll("/\\*.*\\*/", "");
            inComment |= text.contains("/*");
            code.add(inComment ? "" : text);
            inComment &= !text.contains("*/");
        }
        return code;
    }

    private static void lengthsOfMethods(List<String> lines) {
        Pattern head = Pattern.compile("^( {4}| {8})(?! )[\\w\\[\\] ]*\\w+\\(([^)]*)\\) \\{$");
        for (int i = 0; i < lines.size(); i++) {
            Matcher m = head.matcher(lines.get(i));
            if (m.find() && !lines.get(i).matches("\\s*(if|for|while|switch)\\b.*")) {
                int end = i;
                while (!lines.get(end).equals(m.group(1) + "}")) {
                    end++;
                }
                Due.is("short: " + lines.get(i).trim(), end - i < 60 ? 1 : 0, 1);
                Due.is("at most seven arguments: " + lines.get(i).trim(), m.group(2).split(",").length <= 7 ? 1 : 0, 1);
            }
        }
    }

    private static void classesInside(List<String> lines) {
        int classes = 0;
        for (String line : lines) {
            if (line.matches(".*\\b(class|interface|enum|record) [A-Z]\\w*.*\\{")) {
                classes++;
            }
        }
        Due.is("some twelve classes at most: " + classes, classes >= 1 && classes <= 12 ? 1 : 0, 1);
    }
}
