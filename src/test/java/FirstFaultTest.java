/** Promise 2 on many spoilt TEXTS. */
public final class FirstFaultTest {
    private static final String CODES = "mpb;,0123456789x";

    public static void main(String[] args) {
        Dice dice = new Dice(7);
        int fine = 0;
        for (int turn = 0; turn < 40000; turn++) {
            StringBuilder text = new StringBuilder(Text.thrown(dice, 0).codes);
            for (int spoilt = dice.roll(4); spoilt > 0; spoilt--) {
                spoil(dice, text);
            }
            if (text.length() > 120) {
                text.setLength(120);
            }
            if (FirstFault.isUnclear(text.toString())) {
                continue;
            }
            int want = FirstFault.of(text.toString());
            fine += want < 0 ? 1 : 0;
            RideTie x = new RideTie();
            Checks.due("road by " + text, Checks.read(x, text.toString()), want < 0 ? 0 : -100 - want);
        }
        Checks.hold("many TEXTS are fine", fine > 5000);
        Checks.end();
    }

    private static void spoil(Dice dice, StringBuilder text) {
        int place = dice.roll(text.length() + 1);
        char code = CODES.charAt(dice.roll(CODES.length()));
        switch (dice.roll(5)) {
            case 0:
                text.insert(place, code);
                break;
            case 1:
                text.setLength(place);
                break;
            case 2:
                text.insert(place, text.substring(text.lastIndexOf(";") < 0 ? 0 : text.lastIndexOf(";")));
                break;
            case 3:
                text.append(text.substring(text.lastIndexOf(";") < 0 ? 0 : text.lastIndexOf(";")));
                break;
            default:
                if (place < text.length()) {
                    text.setCharAt(place, code);
                }
        }
    }
}
