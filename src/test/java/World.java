import java.util.ArrayList;
import java.util.List;

/**
 * An object with a bit of everything, all that can be seen of it, and refused calls: they answer what
 * is due and leave all that can be seen as it was. No object is used for more than 512 calls.
 */
final class World {
    static final int CELLS_OF_TEXT = 43;
    /** The FAULT that is left by the latest call of fill(): calls that name no FAULT leave it. */
    static final int LEFT = 3;
    /** The first four are a PLAN; with 2 there would be a BEAST too many. */
    static final int[] CELLS = {1, 0, 0, 1, 0, 2, 0, 0, 0, -1, 0, 0, 0};

    interface Call {
        long on(RideTie x);
    }

    private World() {
    }

    /**
     * ROAD 0: two PIECES, two PEOPLE, a BEAST; PLAN 0: a PLAN, 1: a MEET, 2: a REST that is WRONG.
     * SHEET 0: bytes, the TEXT; 1: nothing; 2: ints, CELLS; 3: shorts, 5 -6 7.
     */
    static RideTie fill() {
        RideTie x = new RideTie();
        Checks.write(x, 0, 0, Checks.codes(Checks.TWO_AND_ONE));
        x.road(0, 0, 0, CELLS_OF_TEXT);
        Checks.draw(x, 0, 0, 0, 0, 1, 0, 0, 1);
        Checks.draw(x, 1, 0, 1, 0, 1, 0, 0, 1);
        Checks.draw(x, 2, 0, 1, 9, 0, 0, 1, 0);
        Checks.write(x, 2, 2, CELLS);
        Checks.write(x, 3, 1, 5, -6, 7);
        x.lame(0, 1, 1);
        x.gone(5);
        x.tell(1);
        x.put(3, 3, 0);
        return x;
    }

    /** Some 220 calls. */
    static List<Long> seen(RideTie x) {
        List<Long> all = new ArrayList<>();
        for (int what = 0; what < 4; what++) {
            all.add((long) x.many(what));
        }
        for (int what = 0; what < 6; what++) {
            all.add((long) x.ofRoad(0, what));
        }
        all.add((long) x.walks(0, 1, 1));
        all.add((long) x.rides(0, 0, 1));
        for (int what = 0; what < 4; what++) {
            all.add((long) x.best(0, 0, RideTie.NONE, what));
            all.add((long) x.ofPerson(0, 1, what));
        }
        for (int q = 0; q < 4; q++) {
            seenOfPlan(x, q, all);
        }
        all.add((long) x.trace());
        for (int k = 0; k < 4; k++) {
            for (int lane = 0; lane < 3; lane++) {
                all.add(x.cell(k, 0, lane));
            }
        }
        for (int i = 0; i <= CELLS_OF_TEXT; i++) {
            all.add(x.cell(0, i, 0));
        }
        for (int i = 0; i <= CELLS.length; i++) {
            all.add(x.cell(2, i, 2));
            all.add(x.cell(3, i, 1));
        }
        all.add((long) x.gone(1));
        return all;
    }

    private static void seenOfPlan(RideTie x, int q, List<Long> all) {
        for (int what = 0; what < 4; what++) {
            all.add((long) x.ofPlan(q, what));
            all.add((long) x.does(q, what / 2, what % 2));
        }
        for (int what = 0; what < 5; what++) {
            all.add((long) x.outcome(q, what));
        }
        all.add((long) x.wrong(q));
        all.add((long) x.there(q, 1, 1));
        all.add(x.safe(q, 0));
    }

    /** Of a call that names no FAULT: fault() is as it was, too. */
    static void refuses(String name, long due, Call call) {
        refuses(name, due, LEFT, call);
    }

    /** Of a call that names FAULTS: fault() is 0 behind a refusal, the FAULT behind one. */
    static void refuses(String name, long due, int fault, Call call) {
        RideTie x = fill();
        Checks.due(name, call.on(x), due);
        Checks.due("fault() behind " + name, x.fault(), fault);
        same(name, seen(x), seen(fill()));
    }

    static void same(String name, List<Long> got, List<Long> want) {
        Checks.hold("all behind " + name + " is as it was: " + got + " and " + want, got.equals(want));
    }
}
