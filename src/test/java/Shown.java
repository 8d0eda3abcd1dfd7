import java.io.IOException;
import java.nio.file.Files;
import java.nio.file.Path;
import java.util.ArrayList;
import java.util.List;
import java.util.regex.Matcher;
import java.util.regex.Pattern;

/**
 * Writes the calls that README.md shows into a program of their own, which asks for the answers that
 * README.md names: java Shown FOLDER makes FOLDER/ReadmeCalls.java. A call without an answer is a fault.
 */
final class Shown {
    /** x.call(..);  // answer: what it means */
    private static final Pattern ANSWERED = Pattern.compile("^(\\w+\\.\\w+\\(.*\\)); +// (-?\\d+|[A-Z]+)(?:: .*)?$");
    /** What is made ready, or fed letter by letter, answers nothing that is shown. */
    private static final Pattern READY = Pattern.compile("^(DecreedStreets|String) \\w+ = .*;$|^for \\(.*\\) \\w+\\.feed\\(.*\\);$");

    private Shown() {
    }

    public static void main(String[] args) throws IOException {
        if (args.length != 1) {
            System.out.println("usage: java Shown FOLDER");
            System.exit(1);
        }
        List<String> lines = new ArrayList<>();
        lines.add("public final class ReadmeCalls {");
        lines.add("  public static void main(String[] args) {");
        boolean isWhole = true;
        for (String line : new Readme().program) {
            isWhole &= addLine(lines, line);
        }
        lines.add("    Due.end();");
        lines.add("  }");
        lines.add("}");
        Files.createDirectories(Path.of(args[0]));
        Files.write(Path.of(args[0], "ReadmeCalls.java"), lines);
        if (!isWhole) {
            System.exit(1);
        }
    }

    private static boolean addLine(List<String> lines, String line) {
        Matcher answered = ANSWERED.matcher(line);
        if (answered.matches()) {
            String call = answered.group(1);
            String answer = answered.group(2);
            String due = answer.matches("[A-Z]+") ? "DecreedStreets." + answer : answer;
            lines.add("    Due.is(\"README.md: " + call + "\", " + call + ", " + due + ");");
            return true;
        }
        if (line.isBlank() || READY.matcher(line).matches()) {
            lines.add("    " + line);
            return true;
        }
        System.out.println("README.md shows a line without its answer: " + line);
        return false;
    }
}
