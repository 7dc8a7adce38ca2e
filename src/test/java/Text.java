import java.util.Arrays;

/** A TEXT that is as told, and the numbers that it tells. */
final class Text {
    int[] miles;
    int[] grounds;
    int[][] people;
    int[][] beasts;
    String codes;

    static Text thrown(Dice dice, int leastBeasts) {
        return sized(dice, dice.between(1, 6), dice.between(1, 4), dice.between(leastBeasts, 2));
    }

    static Text sized(Dice dice, int pieces, int people, int beasts) {
        Text text = new Text();
        text.miles = new int[pieces];
        text.grounds = new int[pieces];
        text.people = new int[people][];
        text.beasts = new int[beasts][];
        StringBuilder codes = new StringBuilder("m");
        boolean isFlat = dice.roll(3) == 0;
        for (int k = 0; k < pieces; k++) {
            text.miles[k] = dice.between(1, isFlat ? 2 : 9);
            text.grounds[k] = isFlat ? 0 : dice.roll(3);
            codes.append(text.miles[k]).append(text.grounds[k]);
        }
        int slowest = dice.roll(2) == 0 ? 60 : 6;
        boolean isFarWalked = dice.roll(4) != 0;
        for (int p = 0; p < people; p++) {
            int far = isFarWalked || dice.roll(2) == 0 ? 99 : dice.between(0, 20);
            text.people[p] = new int[] {dice.between(1, slowest), dice.between(1, slowest), dice.between(1, slowest), far};
            codes.append(";p");
            append(dice, codes, text.people[p]);
        }
        for (int b = 0; b < beasts; b++) {
            int pace = Math.max(1, slowest / dice.between(1, 3));
            int stands = dice.roll(3) == 0 ? 0 : dice.between(0, 30);
            int limit = dice.roll(2) == 0 ? 9 + dice.roll(15) : dice.between(9, 99);
            text.beasts[b] = new int[] {dice.between(1, pace), dice.between(1, pace), dice.between(1, pace),
                dice.between(1, 2), stands, limit};
            codes.append(";b");
            append(dice, codes, text.beasts[b]);
        }
        text.codes = codes.toString();
        return text;
    }

    /** Of codes that are as told. */
    static Text of(String codes) {
        Text text = new Text();
        text.codes = codes;
        String[] parts = codes.split(";");
        int pieces = (parts[0].length() - 1) / 2;
        text.miles = new int[pieces];
        text.grounds = new int[pieces];
        for (int k = 0; k < pieces; k++) {
            text.miles[k] = parts[0].charAt(1 + 2 * k) - '0';
            text.grounds[k] = parts[0].charAt(2 + 2 * k) - '0';
        }
        text.people = rowsOf(parts, 'p');
        text.beasts = rowsOf(parts, 'b');
        return text;
    }

    private static int[][] rowsOf(String[] parts, char who) {
        return Arrays.stream(parts).filter(part -> part.charAt(0) == who)
            .map(part -> Arrays.stream(part.substring(1).split(",")).mapToInt(Integer::parseInt).toArray())
            .toArray(int[][]::new);
    }

    private static void append(Dice dice, StringBuilder codes, int[] numbers) {
        for (int j = 0; j < numbers.length; j++) {
            codes.append(j == 0 ? "" : ",");
            codes.append(numbers[j] < 10 && dice.roll(6) == 0 ? "0" : "").append(numbers[j]);
        }
    }
}
