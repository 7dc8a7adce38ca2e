/** No call throws or fails to end, whatever it is given; refused calls change nothing. */
public final class AnyCallsTest {
    private static final int[] EDGES = {0, 0, 0, 1, 1, 2, 3, 4, 5, 6, 7, 12, 13, 60, 61, 119, 120, 121, 255, 65536,
        -1, -2, -9, -10, -128, Integer.MAX_VALUE, Integer.MIN_VALUE, Integer.MAX_VALUE - 1};
    private static final int CALLS = 36;

    public static void main(String[] args) {
        for (int seed = 0; seed < 1500; seed++) {
            oneRun(seed);
        }
        Checks.end();
    }

    /** The second object makes only the calls that the first one was not refused. */
    private static void oneRun(int seed) {
        Dice dice = new Dice(seed);
        RideTie first = new RideTie();
        RideTie second = new RideTie();
        Text text = Text.sized(dice, dice.between(1, 3), dice.between(1, 3), dice.roll(3));
        if (dice.roll(5) != 0) {
            begin(first, text);
            begin(second, text);
        }
        for (int turn = 0; turn < 300; turn++) {
            int which = dice.roll(CALLS);
            int[] a = new int[8];
            for (int i = 0; i < a.length; i++) {
                a[i] = dice.roll(3) == 0 ? EDGES[dice.roll(EDGES.length)] : dice.roll(3);
            }
            long answer = call(first, which, a);
            if (which == 34) {
                continue;
            }
            boolean isRefused = answer < 0 && answer != RideTie.NONE && which != 33 || answer == RideTie.LOST;
            if (!isRefused) {
                Checks.due("call " + which + " of run " + seed, call(second, which, a), answer);
            }
        }
        for (int what = 0; what < 4; what++) {
            Checks.due("many of run " + seed, second.many(what), first.many(what));
        }
    }

    private static void begin(RideTie x, Text text) {
        Checks.read(x, text.codes);
        int[] cells = new int[text.miles.length * text.people.length];
        for (int i = 0; i < text.people.length; i++) {
            cells[i] = Math.min(i, text.beasts.length);
        }
        Checks.draw(x, 0, 0, 0, 0, cells);
        Checks.draw(x, 1, 0, 1, 0, cells);
        Checks.draw(x, 2, 0, 1, 5, cells);
    }

    private static long call(RideTie x, int which, int[] a) {
        if (which < 10) {
            return roads(x, which, a);
        }
        return which < 20 ? plans(x, which, a) : which < 27 ? bests(x, which, a) : sheets(x, which, a);
    }

    private static long roads(RideTie x, int which, int[] a) {
        switch (which) {
            case 0: return x.road(a[0], a[1], a[2], a[3]);
            case 1: return x.ofRoad(a[0], a[1]);
            case 2: return x.ofPiece(a[0], a[1], a[2]);
            case 3: return x.ofPerson(a[0], a[1], a[2]);
            case 4: return x.ofBeast(a[0], a[1], a[2]);
            case 5: return x.lame(a[0], a[1], a[2]);
            case 6: return x.walks(a[0], a[1], a[2]);
            case 7: return x.rides(a[0], a[1], a[2]);
            case 8: return x.gone(a[0]);
            default: return x.plan(a[0], a[1], a[2], a[3], a[4], a[5], a[6], a[7]);
        }
    }

    private static long plans(RideTie x, int which, int[] a) {
        switch (which) {
            case 10: return x.ofPlan(a[0], a[1]);
            case 11: return x.does(a[0], a[1], a[2]);
            case 12: return x.wrong(a[0]);
            case 13: return x.there(a[0], a[1], a[2]);
            case 14: return x.came(a[0], a[1], a[2]);
            case 15: return x.went(a[0], a[1], a[2]);
            case 16: return x.outcome(a[0], a[1]);
            case 17: return x.walked(a[0], a[1]);
            case 18: return x.safe(a[0], a[1]);
            default: return x.as(a[0], a[1]);
        }
    }

    private static long bests(RideTie x, int which, int[] a) {
        switch (which) {
            case 20: return x.best(a[0], a[1], a[2], a[3]);
            case 21: return x.row(a[0], a[1], a[2], a[3], a[4]);
            case 22: return x.cost(a[0]);
            case 23: return x.fewest(a[0]);
            case 24: return x.rows(a[0]);
            case 25: return x.even(a[0], a[1]);
            default: return x.share(a[0], a[1], a[2]);
        }
    }

    private static long sheets(RideTie x, int which, int[] a) {
        switch (which) {
            case 27: return x.lose(a[0]);
            case 28: return x.put(a[0], a[1], a[2]);
            case 29: return x.cell(a[0], a[1], a[2]);
            case 30: return x.copy(a[0], a[1], a[2], a[3], a[4]);
            case 31: return x.tell(a[0]);
            case 32: return x.call(a[0]);
            case 33: return x.trace();
            case 34: return x.fault();
            default: return x.sheet(a[0], a[1], a[2]);
        }
    }
}
