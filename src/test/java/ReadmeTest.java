import java.io.File;
import java.lang.reflect.Method;
import java.lang.reflect.Modifier;
import java.util.List;
import java.util.Map;
import java.util.Set;
import java.util.TreeMap;
import java.util.TreeSet;
import java.util.regex.Matcher;
import java.util.regex.Pattern;

/** README.md: what it says of the face, of refusals and of tests is so. Its calls are asked by what Shown writes. */
public final class ReadmeTest {
    private static final Readme README = new Readme();
    private static final String[] REFUSALS = {"UNKNOWN", "OUTSIDE", "NOT", "FULL"};

    public static void main(String[] args) {
        everyCallIsShown();
        everyCallStandsInTheTable();
        noCallIsShownElsewhere();
        theNumbersOfRefusals();
        everyTestIsNamed();
        Due.end();
    }

    private static void everyCallIsShown() {
        String program = String.join("\n", README.program);
        for (Method m : DecreedStreets.class.getDeclaredMethods()) {
            if (Modifier.isPublic(m.getModifiers())) {
                boolean isShown = Pattern.compile("\\b[a-z]\\." + m.getName() + "\\(").matcher(program).find();
                Due.is("README.md shows " + m.getName(), isShown ? 1 : 0, 1);
            }
        }
        for (String refusal : REFUSALS) {
            Due.is("README.md shows " + refusal, program.contains("// " + refusal + ":") ? 1 : 0, 1);
        }
    }

    /** A row for each call of the document's face, in its order, with the refusals and NONE that its promise names. */
    private static void everyCallStandsInTheTable() {
        List<String[]> rows = README.rows("`\\w+\\([a-z, ]*\\)`");
        Matcher m = Pattern.compile("public int (\\w+)\\(([^)]*)\\);").matcher(Document.textOf("The public face"));
        int count = 0;
        for (; m.find(); count++) {
            String call = "`" + m.group(1) + "(" + m.group(2).replace("int ", "") + ")`";
            String[] row = count < rows.size() ? rows.get(count) : new String[] {"", "", ""};
            Due.is("row " + count + " is of " + call, row[0].equals(call) ? 1 : 0, 1);
            String promise = Document.textOf("Promise " + (count + 2)).replace("= NONE", "");
            for (String refusal : REFUSALS) {
                boolean isSo = has(row[2], refusal) == has(promise, refusal);
                Due.is(call + " in the table: " + refusal, isSo ? 1 : 0, 1);
            }
            Due.is(call + " in the table: NONE", has(row[1].replace("is NONE", ""), "NONE") == has(promise, "NONE") ? 1 : 0, 1);
        }
        Due.is("calls of the face", count, 30);
        Due.is("rows of the table", rows.size(), count);
    }

    private static boolean has(String text, String word) {
        return text.matches(".*\\b" + word + "\\b.*");
    }

    /** What stands outside the Java blocks is not asked, so no call with its arguments may stand there. */
    private static void noCallIsShownElsewhere() {
        for (String line : README.prose) {
            boolean isShown = line.matches(".*\\w\\([^)]*\\d[^)]*\\).*") && line.matches(".*`[^`]*\\w\\([^)]*\\d.*");
            Due.is("README.md shows a call outside its program: " + line, isShown ? 1 : 0, 0);
        }
    }

    private static void theNumbersOfRefusals() {
        Map<String, Integer> numbers = new TreeMap<>();
        numbers.put("UNKNOWN", DecreedStreets.UNKNOWN);
        numbers.put("OUTSIDE", DecreedStreets.OUTSIDE);
        numbers.put("NOT", DecreedStreets.NOT);
        numbers.put("FULL", DecreedStreets.FULL);
        List<String[]> rows = README.rows("`[A-Z]+`");
        Due.is("refusals in the table", rows.size(), REFUSALS.length);
        for (int i = 0; i < rows.size() && i < REFUSALS.length; i++) {
            Due.is("refusal " + i + " is " + REFUSALS[i], rows.get(i)[0].equals("`" + REFUSALS[i] + "`") ? 1 : 0, 1);
            Due.is("its number", Long.parseLong(rows.get(i)[1]), numbers.get(REFUSALS[i]));
        }
    }

    private static void everyTestIsNamed() {
        Set<String> named = new TreeSet<>();
        for (String[] row : README.rows("\\w+Test")) {
            named.add(row[0] + ".java");
        }
        Set<String> there = new TreeSet<>();
        String[] files = new File("src/test/java").list((folder, name) -> name.endsWith("Test.java"));
        there.addAll(List.of(files == null ? new String[0] : files));
        Due.is("tests named in README.md " + named + ", tests there " + there, named.equals(there) ? 1 : 0, 1);
        Due.is("README.md names .ci/run", README.prose.contains(".ci/run") ? 1 : 0, 1);
    }
}
