/** No call throws or fails to end, whatever it is given; refused calls change nothing. */
public final class AnyCallsTest {
    private static final int[] EDGES = {0, 0, 0, 1, 1, 2, 3, 4, 5, 6, 7, 12, 13, 60, 61, 119, 120, 121, 255, 65536,
        -1, -2, -9, -10, -128, Integer.MAX_VALUE, Integer.MIN_VALUE, Integer.MAX_VALUE - 1};

    public static void main(String[] args) {
        for (int seed = 0; seed < 1500; seed++) {
            oneRun(seed);
        }
        Checks.end();
    }

    /** The second object makes only the calls that the first one was not refused. */
    private static void oneRun(int seed) {
        Dice dice = new Dice(seed);
        RideTie first = new RideTie();
        RideTie second = new RideTie();
        Text text = Text.sized(dice, dice.between(1, 3), dice.between(1, 3), dice.roll(3));
        if (dice.roll(5) != 0) {
            begin(first, text);
            begin(second, text);
        }
        for (int turn = 0; turn < 300; turn++) {
            String name = Calls.NAMES[dice.roll(Calls.NAMES.length)];
            int[] a = new int[8];
            for (int i = 0; i < a.length; i++) {
                a[i] = dice.roll(3) == 0 ? EDGES[dice.roll(EDGES.length)] : dice.roll(3);
            }
            long answer = Calls.make(first, name, a);
            if (name.equals("fault")) {
                continue;
            }
            boolean isRefused = answer < 0 && answer != RideTie.NONE && !name.equals("trace") || answer == RideTie.LOST;
            if (!isRefused) {
                Checks.due(name + " of run " + seed, Calls.make(second, name, a), answer);
            }
        }
        for (int what = 0; what < 4; what++) {
            Checks.due("many of run " + seed, second.many(what), first.many(what));
        }
    }

    private static void begin(RideTie x, Text text) {
        Checks.read(x, text.codes);
        int[] cells = new int[text.miles.length * text.people.length];
        for (int i = 0; i < text.people.length; i++) {
            cells[i] = Math.min(i, text.beasts.length);
        }
        Checks.draw(x, 0, 0, 0, 0, cells);
        Checks.draw(x, 1, 0, 1, 0, cells);
        Checks.draw(x, 2, 0, 1, 5, cells);
    }
}
