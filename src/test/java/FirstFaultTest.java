import java.util.regex.Matcher;
import java.util.regex.Pattern;

/** Promise 2 on many spoilt TEXTS: the FIRST FAULT, found from the words of the document by patterns. */
public final class FirstFaultTest {
    private static final String NUMBER = "[0-9]{1,2}";
    // the ; ahead of what can't come there is let stand
    private static final Pattern SHAPE = Pattern.compile("m([1-9][0-2]){1,6}"
        + "(;p" + NUMBER + "(," + NUMBER + "){3}){1,4}"
        + "(;b" + NUMBER + "(," + NUMBER + "){5}){0,2}");
    private static final Pattern SHAPE_WITH_END = Pattern.compile(SHAPE.pattern() + ";?");
    private static final String CODES = "mpb;,0123456789x";

    public static void main(String[] args) {
        Dice dice = new Dice(7);
        int fine = 0;
        for (int turn = 0; turn < 40000; turn++) {
            StringBuilder text = new StringBuilder(Text.thrown(dice, 0).codes);
            for (int spoilt = dice.roll(4); spoilt > 0; spoilt--) {
                spoil(dice, text);
            }
            if (text.length() > 120) {
                text.setLength(120);
            }
            int want = firstFault(text.toString());
            fine += want < 0 ? 1 : 0;
            RideTie x = new RideTie();
            Checks.due("road by " + text, Checks.read(x, text.toString()), want < 0 ? 0 : -100 - want);
        }
        Checks.hold("many TEXTS are fine", fine > 5000);
        Checks.end();
    }

    private static void spoil(Dice dice, StringBuilder text) {
        int place = dice.roll(text.length() + 1);
        char code = CODES.charAt(dice.roll(CODES.length()));
        switch (dice.roll(5)) {
            case 0:
                text.insert(place, code);
                break;
            case 1:
                text.setLength(place);
                break;
            case 2:
                text.insert(place, text.substring(text.lastIndexOf(";") < 0 ? 0 : text.lastIndexOf(";")));
                break;
            case 3:
                text.append(text.substring(text.lastIndexOf(";") < 0 ? 0 : text.lastIndexOf(";")));
                break;
            default:
                if (place < text.length()) {
                    text.setCharAt(place, code);
                }
        }
    }

    /** Below 0: none. */
    private static int firstFault(String text) {
        int place = 0;
        while (place < text.length() && goesOn(text.substring(0, place + 1))) {
            place++;
        }
        int number = firstWrongNumber(text.substring(0, place));
        if (number >= 0) {
            return number;
        }
        boolean isWhole = place == text.length() && SHAPE.matcher(text).matches();
        return isWhole ? -1 : place;
    }

    private static boolean goesOn(String start) {
        Matcher matcher = SHAPE_WITH_END.matcher(start);
        return matcher.matches() || matcher.hitEnd();
    }

    private static int firstWrongNumber(String start) {
        int place = 0;
        for (String part : start.split(";", -1)) {
            int inner = place + 1;
            String[] numbers = part.isEmpty() || part.charAt(0) == 'm' ? new String[0] : part.substring(1).split(",", -1);
            for (int j = 0; j < numbers.length; j++) {
                if (!numbers[j].isEmpty() && !isAsTold(part.charAt(0), j, Integer.parseInt(numbers[j]))) {
                    return inner;
                }
                inner += numbers[j].length() + 1;
            }
            place += part.length() + 1;
        }
        return -1;
    }

    private static boolean isAsTold(char who, int j, int number) {
        if (j < 3) {
            return number >= 1 && number <= 60;
        }
        if (who == 'p') {
            return true;
        }
        return j == 3 ? number == 1 || number == 2 : j == 4 ? number <= 30 : number >= 9;
    }
}
