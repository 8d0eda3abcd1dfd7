import java.io.IOException;
import java.nio.file.Files;
import java.nio.file.Path;
import java.util.ArrayList;
import java.util.List;
import java.util.Map;
import java.util.Set;
import java.util.TreeMap;
import java.util.TreeSet;
import java.util.regex.Matcher;
import java.util.regex.Pattern;

/** LANGUAGE.md, as far as a look at the lines of the one file can tell. Run from the project's folder. */
public final class LanguageTest {
    /** Rules 1, 2, 4, 6, 9. */
    private static final String[] FORBIDDEN = {"\\bthrow\\b", "\\bthrows\\b", "\\btry\\b", "\\bcatch\\b",
        "\\bsynchronized\\b", "\\bassert\\b", "->", "::", "^package\\b", "\\bprotected\\b", "Exact\\(", "\\bInteger\\.[A-Z]",
        "\\bhashCode\\b", "\\btoString\\b", "\\bequals\\b", "\\bwhile \\(true\\)", "for \\(;;\\)", "\\bimport\\b",
        "\\blong\\[\\]\\[\\]\\[", "\\binstanceof\\b", "\\bstatic \\{", "\\bvolatile\\b", "\\bnative\\b", "\\bdouble\\b", "\\bfloat\\b"};
    /** Rule 4: what of the library the file uses. */
    private static final Set<String> LIBRARY = Set.of("Math.min", "Math.max", "Integer.bitCount", "System.arraycopy");
    private static final Pattern HEAD = Pattern.compile("^( {4}| {8})(?! )[\\w\\[\\] ]*?(\\w+)\\(([^)]*)\\) \\{$");
    private static final Pattern CLASS = Pattern.compile("^( {4})?(\\w+ )*class (\\w+) \\{$");

    public static void main(String[] args) throws IOException {
        List<String> lines = withoutComments(Files.readAllLines(Path.of("src/main/java/DecreedStreets.java")));
        for (String word : FORBIDDEN) {
            Pattern pattern = Pattern.compile(word);
            for (int i = 0; i < lines.size(); i++) {
                Due.is("line " + (i + 1) + " has " + word, pattern.matcher(lines.get(i)).find() ? 1 : 0, 0);
            }
        }
        lengthsOfMethods(lines);
        classesInside(lines);
        fieldsOfClasses(lines);
        library(lines);
        signs(lines);
        callsAtMostEightDeep(lines);
        Due.end();
    }

    private static List<String> withoutComments(List<String> lines) {
        List<String> code = new ArrayList<>();
        boolean inComment = false;
        for (String line : lines) {
            String text = line.replaceAll("//.*", "").replaceAll("/\\*.*\\*/", "");
            inComment |= text.contains("/*");
            code.add(inComment ? "" : text);
            inComment &= !text.contains("*/");
        }
        return code;
    }

    private static boolean isHead(String line) {
        return HEAD.matcher(line).find() && !line.matches("\\s*(if|for|while|switch|\\} else if)\\b.*");
    }

    private static int endOf(List<String> lines, int head, String indent) {
        int end = head;
        while (!lines.get(end).equals(indent + "}")) {
            end++;
        }
        return end;
    }

    private static void lengthsOfMethods(List<String> lines) {
        for (int i = 0; i < lines.size(); i++) {
            Matcher m = HEAD.matcher(lines.get(i));
            if (isHead(lines.get(i)) && m.find()) {
                int end = endOf(lines, i, m.group(1));
                Due.is("rule 11, short: " + lines.get(i).trim(), end - i < 60 ? 1 : 0, 1);
                Due.is("rule 11, at most seven arguments: " + lines.get(i).trim(), m.group(3).split(",").length <= 7 ? 1 : 0, 1);
            }
        }
    }

    private static void classesInside(List<String> lines) {
        int classes = 0;
        for (String line : lines) {
            if (line.matches(".*\\b(class|interface|enum|record) [A-Z]\\w*.*\\{")) {
                classes++;
                boolean isFace = line.equals("public final class DecreedStreets {");
                Due.is("rule 2, static inside: " + line, isFace || line.startsWith("    static final class ") ? 1 : 0, 1);
            }
        }
        Due.is("rule 11, some twelve classes at most: " + classes, classes >= 1 && classes <= 12 ? 1 : 0, 1);
    }

    private static void fieldsOfClasses(List<String> lines) {
        String indent = "";
        int fields = 0;
        for (String line : lines) {
            Matcher m = CLASS.matcher(line);
            if (m.matches()) {
                indent = m.group(1) == null ? "    " : "        ";
                fields = 0;
            } else if (line.startsWith(indent) && line.matches(indent + "(?! )[\\w\\[\\] ]+( = .*)?;") && !line.contains("return")) {
                boolean isStatic = line.contains(" static ");
                fields += isStatic ? 0 : 1;
                Due.is("rule 5, static and final: " + line, !isStatic || line.contains(" final ") ? 1 : 0, 1);
                Due.is("rule 11, some twenty fields: " + line, fields <= 20 ? 1 : 0, 1);
            }
        }
    }

    private static void library(List<String> lines) {
        Pattern used = Pattern.compile("\\b(Math|Integer|Long|System|Arrays|String|StringBuilder|List|ArrayList|Character|Object)\\b(\\.\\w+)?");
        for (String line : lines) {
            Matcher m = used.matcher(line);
            while (m.find()) {
                Due.is("rule 4, the library: " + m.group(), LIBRARY.contains(m.group()) ? 1 : 0, 1);
            }
        }
    }

    private static void signs(List<String> lines) {
        for (String line : lines) {
            Due.is("rule 4, signs 1 to 127: " + line, line.matches("[\\x20-\\x7e]*") ? 1 : 0, 1);
        }
    }

    /** By names alone, so a method of one class is taken for that of another: too deep at most, never too shallow. */
    private static void callsAtMostEightDeep(List<String> lines) {
        Map<String, Set<String>> calls = new TreeMap<>();
        for (int i = 0; i < lines.size(); i++) {
            Matcher m = HEAD.matcher(lines.get(i));
            if (isHead(lines.get(i)) && m.find()) {
                Set<String> called = calls.computeIfAbsent(m.group(2), name -> new TreeSet<>());
                Matcher call = Pattern.compile("(\\w+)\\(").matcher(String.join("\n", lines.subList(i + 1, endOf(lines, i, m.group(1)))));
                while (call.find()) {
                    called.add(call.group(1));
                }
            }
        }
        for (String name : calls.keySet()) {
            Due.is("rules 8 and 11, at most eight deep, none by itself: " + name, depth(name, calls, 0) <= 8 ? 1 : 0, 1);
        }
        Due.is("methods seen", calls.size() > 80 ? 1 : 0, 1);
    }

    private static int depth(String name, Map<String, Set<String>> calls, int above) {
        if (above > 20) {
            return 100;
        }
        int most = 0;
        for (String called : calls.getOrDefault(name, Set.of())) {
            boolean isLibrary = LIBRARY.stream().anyMatch(known -> known.endsWith("." + called));
            if (calls.containsKey(called) || isLibrary) {
                most = Math.max(most, depth(called, calls, above + 1));
            }
        }
        return 1 + most;
    }
}
