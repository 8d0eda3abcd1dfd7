import java.util.ArrayList;
import java.util.List;
import java.util.regex.Matcher;
import java.util.regex.Pattern;

/** The document's words on texts and their faults once more: token by token, every fault at it, of these the least. */
final class PlainReader {
    private static final Pattern TOKEN = Pattern.compile("[0-9]+|[^ ]");

    /** 0 without a fault. */
    final int fault;
    /** The letter of the fault; -1 without one. */
    final int letter;
    private int corners;
    private int streets;
    private int carts;
    private String word = "";
    private final List<Integer> numbers = new ArrayList<>();

    PlainReader(String text) {
        Matcher token = TOKEN.matcher(text);
        int found = 0;
        int at = -1;
        while (found == 0 && token.find()) {
            found = faultOf(token.group());
            at = found == 0 ? -1 : token.start();
        }
        if (found == 0 && !word.isEmpty()) {
            found = 1;
            at = text.length();
        }
        fault = found;
        letter = at;
    }

    int corners() {
        return corners;
    }

    private int faultOf(String token) {
        boolean isNumber = token.matches("[0-9]+");
        if (word.isEmpty()) {
            return faultOfWord(token);
        }
        if (numbers.size() < bounds().length) {
            return isNumber ? faultOfNumber(token) : 1;
        }
        if (!token.equals(";")) {
            return 1;
        }
        corners = word.equals("c") ? numbers.get(0) : corners;
        streets += word.equals("s") ? 1 : 0;
        carts += word.equals("k") ? 1 : 0;
        word = "";
        numbers.clear();
        return 0;
    }

    private int faultOfWord(String token) {
        word = token;
        if (!token.matches("[csk]") || corners == 0 && !token.equals("c")) {
            return 1;
        }
        boolean isTooMany = token.equals("c") ? corners > 0 : token.equals("s") ? streets == 9 : carts == 6;
        return isTooMany ? 3 : 0;
    }

    private int faultOfNumber(String token) {
        int[] bound = bounds()[numbers.size()];
        int value = token.length() > 3 ? -1 : Integer.parseInt(token);
        numbers.add(value);
        if (value < bound[0] || value > bound[1]) {
            return 2;
        }
        boolean isSecond = numbers.size() == 2 && !word.equals("c");
        return isSecond && value == numbers.get(0) ? 4 : 0;
    }

    private int[][] bounds() {
        int[] corner = {0, corners - 1};
        switch (word) {
            case "c":
                return new int[][] {{2, 7}, {1, 60}};
            case "s":
                return new int[][] {corner, corner, {1, 9}, {0, 4}};
            default:
                return new int[][] {corner, corner, {0, 200}, {1, 9}, {0, 99}};
        }
    }
}
