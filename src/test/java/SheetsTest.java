/** Promises 28 to 38: SHEETS, TELLING, TRACE, FAULT, how many. */
public final class SheetsTest {

    public static void main(String[] args) {
        sheet();
        sheetRefused();
        lose();
        put();
        cell();
        copy();
        copyOntoItself();
        copyRefused();
        tellAndCall();
        traceWraps();
        as();
        fault();
        many();
        Checks.end();
    }

    private static void sheet() {
        RideTie x = new RideTie();
        Checks.due("sheet(3, 2, 120)", x.sheet(3, 2, 120), 1);
        Checks.due("the last cell", x.cell(3, 119, 2), 0);
        Checks.due("behind it", x.put(3, 120, 1), -13);
        x.put(3, 0, 7);
        Checks.due("a new row", x.sheet(3, 2, 120), 1);
        Checks.due("is of 0", x.cell(3, 0, 2), 0);
        x.put(3, 5, 7);
        Checks.due("a shorter one", x.sheet(3, 0, 2), 1);
        Checks.due("has no more", x.put(3, 2, 1), -13);
        Checks.due("a longer one", x.sheet(3, 1, 6), 1);
        Checks.due("is of 0", x.cell(3, 5, 1), 0);
        Checks.due("none at all", x.sheet(0, 0, 0), 1);
        Checks.due("is not nothing", x.put(0, 0, 1), -13);
        Checks.due("is not nothing", x.lose(0), 1);
    }

    private static void sheetRefused() {
        RideTie x = new RideTie();
        x.sheet(1, 2, 3);
        Checks.due("sheet", x.sheet(4, 3, 121), RideTie.UNKNOWN);
        Checks.due("sheet", x.sheet(-1, 3, -1), RideTie.UNKNOWN);
        Checks.due("lane", x.sheet(1, 3, -1), RideTie.OUTSIDE);
        Checks.due("lane", x.sheet(1, -1, -1), RideTie.OUTSIDE);
        Checks.due("n", x.sheet(1, 0, 121), RideTie.OUTSIDE);
        Checks.due("n", x.sheet(1, 0, Integer.MAX_VALUE), RideTie.OUTSIDE);
        Checks.due("fault", x.fault(), 0);
        Checks.due("size", x.sheet(1, 0, -1), -14);
        Checks.due("fault", x.fault(), 4);
        Checks.due("size", x.sheet(1, 0, Integer.MIN_VALUE), -14);
        Checks.due("nothing was changed", x.cell(1, 2, 2), 0);
    }

    private static void lose() {
        RideTie x = new RideTie();
        x.sheet(2, 0, 1);
        Checks.due("lose", x.lose(2), 1);
        Checks.due("lose", x.lose(2), 0);
        Checks.due("lose", x.lose(4), RideTie.UNKNOWN);
        Checks.due("lose", x.lose(-1), RideTie.UNKNOWN);
        Checks.due("it has nothing", x.put(2, 0, 1), -11);
    }

    private static void putIs(RideTie x, int lane, int v, int want) {
        x.sheet(0, lane, 1);
        Checks.due("put " + v, x.put(0, 0, v), 1);
        Checks.due("cut to LANE " + lane, x.cell(0, 0, lane), want);
    }

    private static void put() {
        RideTie x = new RideTie();
        putIs(x, 0, 127, 127);
        putIs(x, 0, 128, -128);
        putIs(x, 0, 300, 44);
        putIs(x, 0, -129, 127);
        putIs(x, 0, 255, -1);
        putIs(x, 1, 32767, 32767);
        putIs(x, 1, 32768, -32768);
        putIs(x, 1, 70001, 4465);
        putIs(x, 1, 65535, -1);
        putIs(x, 2, Integer.MAX_VALUE, Integer.MAX_VALUE);
        putIs(x, 2, Integer.MIN_VALUE, Integer.MIN_VALUE);
        Checks.due("sheet", x.put(4, -1, 0), RideTie.UNKNOWN);
        Checks.due("sheet", x.put(-1, 0, 0), RideTie.UNKNOWN);
        Checks.due("fault", x.fault(), 0);
        Checks.due("nothing", x.put(1, -1, 0), -11);
        Checks.due("fault", x.fault(), 1);
        Checks.due("index", x.put(0, 1, 0), -13);
        Checks.due("index", x.put(0, -1, 0), -13);
        Checks.due("index", x.put(0, Integer.MIN_VALUE, 0), -13);
        Checks.due("fault", x.fault(), 3);
        Checks.due("put", x.put(0, 0, 5), 1);
        Checks.due("fault", x.fault(), 0);
    }

    private static void lost(RideTie x, int k, int i, int lane, int fault) {
        x.put(0, 0, 0);
        Checks.due("cell(" + k + ", " + i + ", " + lane + ")", x.cell(k, i, lane), RideTie.LOST);
        Checks.due("fault", x.fault(), fault);
    }

    private static void cell() {
        RideTie x = new RideTie();
        Checks.write(x, 0, 1, 5, -6, 7);
        Checks.due("cell", x.cell(0, 1, 1), -6);
        Checks.due("cell", x.cell(0, 2, 1), 7);
        lost(x, 4, 0, 3, 0);
        lost(x, -1, 0, 0, 0);
        lost(x, 0, 9, 3, 0);
        lost(x, 0, 9, -1, 0);
        lost(x, 1, 9, 3, 0);
        lost(x, 0, 9, 0, 2);
        lost(x, 0, 9, 2, 2);
        lost(x, 1, 9, 0, 1);
        lost(x, 0, 3, 1, 3);
        lost(x, 0, -1, 1, 3);
    }

    private static void rowIs(RideTie x, int k, int lane, int... cells) {
        for (int i = 0; i < cells.length; i++) {
            Checks.due("cell(" + k + ", " + i + ")", x.cell(k, i, lane), cells[i]);
        }
    }

    private static void copy() {
        RideTie x = new RideTie();
        Checks.write(x, 0, 1, 1, 2, 3, 4);
        Checks.write(x, 1, 1, 9, 9, 9);
        Checks.due("copy", x.copy(0, 2, 1, 0, 2), 2);
        rowIs(x, 1, 1, 3, 4, 9);
        rowIs(x, 0, 1, 1, 2, 3, 4);
        Checks.due("none", x.copy(0, 4, 1, 3, 0), 0);
        Checks.due("all", x.copy(1, 0, 0, 1, 3), 3);
        rowIs(x, 0, 1, 1, 3, 4, 9);
    }

    private static void copyOntoItself() {
        RideTie x = new RideTie();
        Checks.write(x, 2, 0, 1, 2, 3, 4, 5);
        Checks.due("forward", x.copy(2, 0, 2, 1, 4), 4);
        rowIs(x, 2, 0, 1, 1, 2, 3, 4);
        Checks.due("back", x.copy(2, 1, 2, 0, 4), 4);
        rowIs(x, 2, 0, 1, 2, 3, 4, 4);
    }

    private static void copyIs(RideTie x, int[] call, int want, int fault) {
        x.put(0, 0, 1);
        Checks.due("copy", x.copy(call[0], call[1], call[2], call[3], call[4]), want);
        Checks.due("fault", x.fault(), fault);
    }

    private static void copyRefused() {
        RideTie x = new RideTie();
        Checks.write(x, 0, 1, 1, 2, 3, 4);
        Checks.write(x, 1, 1, 9, 9, 9);
        Checks.write(x, 2, 2, 9, 9, 9);
        copyIs(x, new int[] {4, -1, 0, -1, -1}, RideTie.UNKNOWN, 0);
        copyIs(x, new int[] {0, -1, -1, -1, -1}, RideTie.UNKNOWN, 0);
        copyIs(x, new int[] {3, -1, 4, -1, -1}, RideTie.UNKNOWN, 0);
        copyIs(x, new int[] {3, -1, 0, -1, -1}, -11, 1);
        copyIs(x, new int[] {0, -1, 3, -1, -1}, -11, 1);
        copyIs(x, new int[] {3, 0, 3, 0, 0}, -11, 1);
        copyIs(x, new int[] {0, -1, 2, -1, -1}, -12, 2);
        copyIs(x, new int[] {0, 0, 2, 0, 0}, -12, 2);
        copyIs(x, new int[] {0, -1, 1, 0, 1}, -13, 3);
        copyIs(x, new int[] {0, 0, 1, -1, 1}, -13, 3);
        copyIs(x, new int[] {0, 0, 1, 0, -1}, -13, 3);
        copyIs(x, new int[] {0, 0, 1, 0, 4}, -13, 3);
        copyIs(x, new int[] {1, 0, 0, 0, 4}, -13, 3);
        copyIs(x, new int[] {0, 5, 1, 0, 0}, -13, 3);
        copyIs(x, new int[] {0, 0, 1, 4, 0}, -13, 3);
        copyIs(x, new int[] {0, 3, 1, 0, Integer.MAX_VALUE}, -13, 3);
        copyIs(x, new int[] {0, Integer.MAX_VALUE, 1, 0, Integer.MAX_VALUE}, -13, 3);
        rowIs(x, 1, 1, 9, 9, 9);
    }

    private static RideTie oneOfEachKind() {
        RideTie x = Checks.planned(Checks.TWO_AND_ONE, 1, 0, 0, 1);
        Checks.due("MEET", Checks.draw(x, 1, 0, 1, 0, 1, 0, 0, 0), 1);
        Checks.due("REST", Checks.draw(x, 2, 0, 1, 1, 1, 1, 1, 0), 2);
        return x;
    }

    private static void tellAndCall() {
        RideTie x = oneOfEachKind();
        Checks.due("PLAN", x.tell(0), 2);
        Checks.due("its body", x.trace(), 1);
        Checks.due("MEET", x.tell(1), 101);
        Checks.due("its bodies", x.trace(), (1 * 31 + 2) * 31 + 1);
        RideTie y = oneOfEachKind();
        Checks.due("REST", y.tell(2), 106);
        Checks.due("its bodies", y.trace(), ((3 * 31 + 2) * 31 + 1) * 31 + 1);
        RideTie z = oneOfEachKind();
        Checks.due("PLAN", z.call(0), 0);
        Checks.due("lent", z.trace(), 4);
        Checks.due("MEET", z.call(1), 1);
        Checks.due("lent", z.trace(), 4 * 31 + 4);
        Checks.due("REST", z.call(2), 60);
        Checks.due("its own", z.trace(), (4 * 31 + 4) * 31 + 5);
        Checks.due("tell", z.tell(3), RideTie.UNKNOWN);
        Checks.due("tell", z.tell(-1), RideTie.UNKNOWN);
        Checks.due("call", z.call(3), RideTie.UNKNOWN);
        Checks.due("call", z.call(-1), RideTie.UNKNOWN);
        Checks.due("nothing left", z.trace(), (4 * 31 + 4) * 31 + 5);
    }

    private static void traceWraps() {
        RideTie x = oneOfEachKind();
        int due = 0;
        for (int turn = 0; turn < 20; turn++) {
            x.call(2);
            due = 31 * due + 5;
            Checks.due("trace", x.trace(), due);
        }
    }

    private static void as() {
        RideTie x = oneOfEachKind();
        int[][] due = {{1, -12, -12}, {1, 1, -12}, {1, 1, 1}};
        for (int q = 0; q < 3; q++) {
            for (int kind = 0; kind < 3; kind++) {
                Checks.due("as(" + q + ", " + kind + ")", x.as(q, kind), due[q][kind]);
                Checks.due("fault", x.fault(), due[q][kind] == 1 ? 0 : 2);
            }
        }
        x.as(0, 1);
        Checks.due("as(0, 3)", x.as(0, 3), RideTie.OUTSIDE);
        Checks.due("fault", x.fault(), 0);
        Checks.due("as(0, -1)", x.as(0, -1), RideTie.OUTSIDE);
        Checks.due("as(3, 3)", x.as(3, 3), RideTie.UNKNOWN);
        Checks.due("as(-1, 0)", x.as(-1, 0), RideTie.UNKNOWN);
    }

    private static void fault() {
        RideTie x = oneOfEachKind();
        x.as(0, 1);
        Checks.due("fault", x.fault(), 2);
        x.ofRoad(9, 9);
        x.lose(0);
        x.tell(0);
        x.call(0);
        x.best(0, 0, RideTie.NONE, 0);
        x.lame(0, 0, 0);
        x.gone(3);
        x.wrong(0);
        x.many(9);
        Checks.due("calls that name none leave it", x.fault(), 2);
        Checks.due("fault again", x.fault(), 2);
        x.sheet(0, 0, 1);
        Checks.due("a call that came to none", x.fault(), 0);
        x.sheet(0, 0, -1);
        Checks.due("size", x.fault(), 4);
        x.copy(9, 0, 0, 0, 0);
        Checks.due("a refused one", x.fault(), 0);
        x.copy(0, 0, 3, 0, 0);
        Checks.due("null", x.fault(), 1);
        x.copy(0, 0, 0, 0, 1);
        Checks.due("none", x.fault(), 0);
        x.put(0, 7, 0);
        Checks.due("index", x.fault(), 3);
        x.cell(0, 0, 0);
        Checks.due("none", x.fault(), 0);
        x.put(0, 7, 0);
        x.plan(0, 9, 0, 0, 0, 0, 0, 0);
        Checks.due("a refused one", x.fault(), 0);
        x.put(0, 7, 0);
        x.road(0, 9, 0, 0);
        Checks.due("a refused one", x.fault(), 0);
        x.put(0, 7, 0);
        x.road(0, 0, 0, 0);
        Checks.due("a FIRST FAULT is none of the machine's", x.fault(), 0);
    }

    private static void many() {
        RideTie x = oneOfEachKind();
        Checks.due("road", Checks.read(x, "m10;p1,1,1,9;p1,1,1,9;p1,1,1,9;b1,1,1,1,1,9;b1,1,1,1,1,9"), 1);
        Checks.due("road", Checks.read(x, "m10;p1,1,1,9"), 2);
        int[] due = {3, 3, 6, 3};
        for (int what = 0; what < 4; what++) {
            Checks.due("many(" + what + ")", x.many(what), due[what]);
        }
        Checks.due("what", x.many(4), RideTie.OUTSIDE);
        Checks.due("what", x.many(-1), RideTie.OUTSIDE);
    }
}
