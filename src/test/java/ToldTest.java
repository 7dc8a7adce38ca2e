import java.util.Arrays;

/** All promises on many thrown runs of calls, against Told: answers, fault(), what is changed and what is not. */
public final class ToldTest {
    private static final int MOST_CALLS = 512;
    private static final int[] EDGES = {-1, -2, -9, -10, 3, 4, 5, 6, 7, 12, 13, 60, 61, 119, 120, 121, 127, 128, 255, 256,
        32768, 65536, Integer.MAX_VALUE, Integer.MIN_VALUE};

    private final Dice dice;
    private final RideTie x = new RideTie();
    private final Told told = new Told();
    private final String run;
    private int made;

    private ToldTest(int seed) {
        dice = new Dice(seed);
        run = " in run " + seed;
    }

    public static void main(String[] args) {
        for (int seed = 0; seed < 2500; seed++) {
            new ToldTest(seed).go();
        }
        Checks.end();
    }

    private void go() {
        while (made < MOST_CALLS) {
            int roll = dice.roll(40);
            if (roll == 0 || told.roads() == 0 && roll < 20) {
                tellRoad();
            } else if (roll < 4 && told.roads() > 0) {
                tellPlan();
            } else {
                anyCall();
            }
        }
    }

    private void make(String name, int... a) {
        if (made >= MOST_CALLS) {
            return;
        }
        made++;
        Checks.due(name + Arrays.toString(a) + run, Calls.make(x, name, a), told.answer(name, a));
        if (made < MOST_CALLS && dice.roll(4) == 0) {
            made++;
            Checks.due("fault() behind " + name + Arrays.toString(a) + run, x.fault(), told.answer("fault"));
        }
    }

    private void write(int k, int lane, int... cells) {
        make("sheet", k, lane, cells.length);
        for (int i = 0; i < cells.length; i++) {
            if (cells[i] != 0) {
                make("put", k, i, cells[i]);
            }
        }
    }

    private void tellRoad() {
        int pieces = dice.between(1, 3);
        int people = dice.between(1, 2);
        int beasts = dice.roll(3);
        if (dice.roll(6) == 0) {
            pieces = dice.between(1, 6);
            people = dice.between(1, 4);
        }
        double rows = Math.pow(beasts + 1, pieces * people);
        if (rows > 800 && rows <= 65536) {
            return;
        }
        StringBuilder text = new StringBuilder(Text.sized(dice, pieces, people, beasts).codes);
        if (dice.roll(4) == 0) {
            text.setCharAt(dice.roll(text.length()), "mpb;,0123456789x".charAt(dice.roll(16)));
        }
        int lane = dice.roll(3);
        int k = dice.roll(4);
        int ahead = dice.roll(3);
        if (FirstFault.isUnclear(text.toString()) || ahead + text.length() > 120) {
            return;
        }
        int[] cells = new int[ahead + text.length()];
        for (int i = 0; i < text.length(); i++) {
            cells[ahead + i] = text.charAt(i);
        }
        write(k, lane, cells);
        make("road", k, lane, ahead, text.length() - (dice.roll(5) == 0 ? dice.roll(4) : 0));
    }

    private void tellPlan() {
        int road = dice.roll(told.roads());
        Text text = told.text(road);
        int[] cells = new int[text.miles.length * text.people.length + dice.roll(2)];
        boolean isRidden = dice.roll(3) != 0;
        for (int i = 0; i < cells.length; i++) {
            cells[i] = isRidden ? dice.roll(text.beasts.length + 1) : 0;
        }
        if (dice.roll(6) == 0) {
            cells[dice.roll(cells.length)] = EDGES[dice.roll(EDGES.length)];
        }
        int lane = dice.roll(3);
        int k = dice.roll(4);
        int gates = text.miles.length - 1;
        int kind = dice.roll(12) == 0 ? dice.between(-1, 3) : gates == 0 ? 0 : dice.roll(3);
        int gate = dice.roll(12) == 0 ? dice.between(-1, gates + 1) : kind == 0 || gates == 0 ? 0 : dice.between(1, gates);
        int minutes = kind != 2 && dice.roll(12) != 0 ? 0 : dice.roll(6) == 0 ? dice.between(-1, 61) : dice.between(1, 60);
        write(k, lane, cells);
        int n = dice.roll(5) == 0 ? cells.length : text.miles.length * text.people.length;
        make("plan", kind, road, gate, minutes, k, dice.roll(9) == 0 ? dice.between(-1, 3) : lane, 0, n);
    }

    private void anyCall() {
        String name = Calls.NAMES[dice.roll(Calls.NAMES.length)];
        if (name.equals("sheet") && dice.roll(3) != 0 || name.equals("lose") && dice.roll(3) != 0) {
            return;
        }
        int[] a = new int[arguments(name)];
        int edge = dice.roll(3) == 0 && a.length > 0 ? dice.roll(a.length) : -1;
        for (int i = 0; i < a.length; i++) {
            a[i] = i == edge ? EDGES[dice.roll(EDGES.length)] : dice.roll(dice.roll(3) + 1);
        }
        if (name.equals("row") || name.equals("best")) {
            a[2] = dice.roll(3) == 0 ? RideTie.NONE : a[2];
        }
        if (name.equals("lame") && dice.roll(3) == 0) {
            a[1] = RideTie.NONE;
        }
        if (name.equals("road")) {
            String text = told.textOf(a[0], a[2], a[3]);
            if (text != null && FirstFault.isUnclear(text)) {
                return;
            }
        }
        make(name, a);
    }

    private static int arguments(String name) {
        switch (name) {
            case "plan":
                return 8;
            case "row":
            case "copy":
                return 5;
            case "road":
            case "best":
                return 4;
            case "trace":
            case "fault":
                return 0;
            case "gone":
            case "wrong":
            case "cost":
            case "fewest":
            case "rows":
            case "lose":
            case "tell":
            case "call":
            case "many":
                return 1;
            case "ofRoad":
            case "ofPlan":
            case "outcome":
            case "walked":
            case "safe":
            case "even":
            case "as":
                return 2;
            default:
                return 3;
        }
    }
}
