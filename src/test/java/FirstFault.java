import java.util.regex.Matcher;
import java.util.regex.Pattern;

/** The FIRST FAULT of a TEXT, found from the words of the document by patterns. */
final class FirstFault {
    private static final String NUMBER = "[0-9]{1,2}";
    private static final Pattern SHAPE = Pattern.compile("m([1-9][0-2]){1,6}"
        + "(;p" + NUMBER + "(," + NUMBER + "){3}){1,4}"
        + "(;b" + NUMBER + "(," + NUMBER + "){5}){0,2}");
    // the ; ahead of what can't come there is let stand
    private static final Pattern SHAPE_WITH_END = Pattern.compile(SHAPE.pattern() + ";?");

    private FirstFault() {
    }

    /** Below 0: none. */
    static int of(String text) {
        int place = 0;
        while (place < text.length() && goesOn(text.substring(0, place + 1))) {
            place++;
        }
        int number = firstWrongNumber(text.substring(0, place));
        if (number >= 0) {
            return number;
        }
        boolean isWhole = place == text.length() && SHAPE.matcher(text).matches();
        return isWhole ? -1 : place;
    }

    /**
     * The document tells that the ; is let stand ahead of a p and of a third b; of one behind a second
     * b and ahead of anything else it can be read both ways.
     */
    static boolean isUnclear(String text) {
        int place = of(text);
        return place > 0 && text.charAt(place - 1) == ';' && SHAPE.matcher(text.substring(0, place - 1)).matches()
            && text.substring(0, place).split(";b", -1).length > 2
            && (place == text.length() || "pb".indexOf(text.charAt(place)) < 0);
    }

    private static boolean goesOn(String start) {
        Matcher matcher = SHAPE_WITH_END.matcher(start);
        return matcher.matches() || matcher.hitEnd();
    }

    private static int firstWrongNumber(String start) {
        int place = 0;
        for (String part : start.split(";", -1)) {
            int inner = place + 1;
            String[] numbers = part.isEmpty() || part.charAt(0) == 'm' ? new String[0] : part.substring(1).split(",", -1);
            for (int j = 0; j < numbers.length; j++) {
                if (!numbers[j].isEmpty() && !isAsTold(part.charAt(0), j, Integer.parseInt(numbers[j]))) {
                    return inner;
                }
                inner += numbers[j].length() + 1;
            }
            place += part.length() + 1;
        }
        return -1;
    }

    private static boolean isAsTold(char who, int j, int number) {
        if (j < 3) {
            return number >= 1 && number <= 60;
        }
        if (who == 'p') {
            return true;
        }
        return j == 3 ? number == 1 || number == 2 : j == 4 ? number <= 30 : number >= 9;
    }
}
