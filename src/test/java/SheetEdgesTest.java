import java.math.BigInteger;

/** "5 SHEETS" of the document and the calls told with it, sentence by sentence. */
public final class SheetEdgesTest {
    private static final int[] LENGTHS = {0, 1, 2, 119, 120};

    public static void main(String[] args) {
        constants();
        sheetsNoughtToThree();
        rowsOfNoughtTo120();
        newRowsAreOfNought();
        cutToItsLane();
        everyCellByItself();
        takenAsALane();
        copiesOfAllLengths();
        copiesOntoTheSame();
        copiesAreAsTheyWere();
        bodiesOfEachKind();
        traceWraps();
        asOneOfAKind();
        faultOfTheLatest();
        callsThatNameNoFault();
        manyOfAll();
        fiveHundredAndTwelveCalls();
        Checks.end();
    }

    private static void constants() {
        Checks.due("UNKNOWN", RideTie.UNKNOWN, -1);
        Checks.due("OUTSIDE", RideTie.OUTSIDE, -2);
        Checks.due("STATE", RideTie.STATE, -3);
        Checks.due("FULL", RideTie.FULL, -4);
        Checks.due("NONE", RideTie.NONE, -9);
        Checks.due("LOST", RideTie.LOST, Long.MIN_VALUE);
    }

    private static void sheetsNoughtToThree() {
        RideTie x = new RideTie();
        for (int k = 0; k < 4; k++) {
            Checks.due("it has nothing at first", x.lose(k), 0);
            for (int lane = 0; lane < 3; lane++) {
                Checks.due("it has nothing at first", x.cell(k, 0, lane), RideTie.LOST);
                Checks.due("NULL", x.fault(), 1);
            }
            Checks.due("put", x.put(k, 0, 1), -11);
            Checks.due("a row", x.sheet(k, k % 3, k), 1);
            Checks.due("its cells", x.put(k, k, 1), -13);
            Checks.due("lose", x.lose(k), 1);
            Checks.due("lose again", x.lose(k), 0);
            Checks.due("put", x.put(k, 0, 1), -11);
            x.sheet(k, 2, k + 1);
            x.put(k, k, 100 + k);
        }
        for (int k = 0; k < 4; k++) {
            Checks.due("each has its own", x.cell(k, k, 2), 100 + k);
        }
        Checks.due("lose(1)", x.lose(1), 1);
        Checks.due("the others keep theirs", x.cell(0, 0, 2), 100);
        Checks.due("the others keep theirs", x.cell(2, 2, 2), 102);
        Checks.due("lose(-1)", x.lose(-1), RideTie.UNKNOWN);
        Checks.due("lose(4)", x.lose(4), RideTie.UNKNOWN);
    }

    private static void rowsOfNoughtTo120() {
        for (int lane = 0; lane < 3; lane++) {
            for (int n : LENGTHS) {
                RideTie x = new RideTie();
                Checks.due("sheet of " + n, x.sheet(2, lane, n), 1);
                Checks.due("fault()", x.fault(), 0);
                for (int i : new int[] {0, 1, n - 1, n, n + 1, -1, 119, 120, Integer.MAX_VALUE, Integer.MIN_VALUE}) {
                    boolean isThere = i >= 0 && i < n;
                    Checks.due("cell " + i + " of " + n, x.cell(2, i, lane), isThere ? 0 : RideTie.LOST);
                    Checks.due("fault()", x.fault(), isThere ? 0 : 3);
                    Checks.due("put " + i + " of " + n, x.put(2, i, 0), isThere ? 1 : -13);
                    Checks.due("fault()", x.fault(), isThere ? 0 : 3);
                }
                Checks.due("121", x.sheet(2, lane, 121), RideTie.OUTSIDE);
                Checks.due("-1", x.sheet(2, lane, -1), -14);
                Checks.due("it has as many as it had", x.put(2, n, 0), -13);
                Checks.due("a row of none is not nothing", x.lose(2), 1);
            }
        }
    }

    private static void newRowsAreOfNought() {
        RideTie x = new RideTie();
        for (int lane = 0; lane < 3; lane++) {
            x.sheet(1, lane, 120);
            for (int i = 0; i < 120; i += 17) {
                x.put(1, i, 77);
            }
            x.put(1, 119, 77);
            Checks.due("a shorter one", x.sheet(1, lane, 18), 1);
            Checks.due("of 0", x.cell(1, 17, lane), 0);
            Checks.due("a longer one", x.sheet(1, lane, 120), 1);
            for (int i = 0; i < 120; i += 17) {
                Checks.due("of 0", x.cell(1, i, lane), 0);
            }
            Checks.due("of 0", x.cell(1, 119, lane), 0);
            x.put(1, 5, 77);
            Checks.due("as long", x.sheet(1, lane, 120), 1);
            Checks.due("of 0", x.cell(1, 5, lane), 0);
            x.put(1, 5, 77);
            x.lose(1);
            x.sheet(1, lane, 120);
            Checks.due("of 0 behind lose", x.cell(1, 5, lane), 0);
        }
    }

    private static void cutToItsLane() {
        int[] numbers = {0, 1, -1, 127, 128, -128, -129, 255, 256, 257, -255, -256, 300, 32767, 32768, -32768, -32769,
            65535, 65536, 70001, -65536, 8388607, Integer.MAX_VALUE, Integer.MIN_VALUE, Integer.MAX_VALUE - 127};
        for (int lane = 0; lane < 3; lane++) {
            RideTie x = new RideTie();
            x.sheet(3, lane, 1);
            for (int v : numbers) {
                // counted in rounds of so many, half of them below 0
                long round = lane == 0 ? 256 : lane == 1 ? 65536 : 1L << 32;
                long want = Math.floorMod(v + round / 2, round) - round / 2;
                Checks.due("put " + v + " as LANE " + lane, x.put(3, 0, v), 1);
                Checks.due("cut to LANE " + lane, x.cell(3, 0, lane), want);
            }
        }
    }

    private static void everyCellByItself() {
        RideTie x = new RideTie();
        x.sheet(0, 1, 120);
        for (int i = 0; i < 120; i++) {
            Checks.due("put " + i, x.put(0, i, 300 - i), 1);
        }
        x.put(0, 60, -1);
        for (int i = 0; i < 120; i++) {
            Checks.due("cell " + i, x.cell(0, i, 1), i == 60 ? -1 : 300 - i);
        }
    }

    private static void takenAsALane() {
        for (int lane = 0; lane < 3; lane++) {
            RideTie x = new RideTie();
            Checks.write(x, 0, lane, 7, 8);
            for (int other = -1; other <= 3; other++) {
                boolean isLane = other >= 0 && other < 3;
                Checks.due("cell as " + other, x.cell(0, 1, other), other == lane ? 8 : RideTie.LOST);
                Checks.due("fault()", x.fault(), isLane && other != lane ? 2 : 0);
                Checks.due("no cell as " + other, x.cell(0, 2, other), RideTie.LOST);
                Checks.due("fault()", x.fault(), !isLane ? 0 : other == lane ? 3 : 2);
                Checks.due("nothing as " + other, x.cell(1, 2, other), RideTie.LOST);
                Checks.due("fault()", x.fault(), isLane ? 1 : 0);
            }
        }
    }

    /** All there is, all but one, none; at the start, at the end, beyond it. */
    private static void copiesOfAllLengths() {
        for (int n : LENGTHS) {
            for (int m : LENGTHS) {
                RideTie x = new RideTie();
                x.sheet(1, 1, n);
                x.sheet(2, 1, m);
                for (int i = 0; i <= n + 1; i += Math.max(1, n)) {
                    copyIs(x, i, n, 0, m, 0);
                    copyIs(x, i, n, m, m, 0);
                    copyIs(x, i, n, m + 1, m, 0);
                    copyIs(x, i, n, 0, m, n - i);
                    copyIs(x, i, n, 0, m, n - i + 1);
                    copyIs(x, i, n, 0, m, m);
                    copyIs(x, i, n, 0, m, m + 1);
                    copyIs(x, i, n, 0, m, 1);
                    copyIs(x, i, n, m - 1, m, 1);
                    copyIs(x, i, n, m, m, 1);
                    copyIs(x, i, n, -1, m, 0);
                    copyIs(x, i, n, 0, m, -1);
                    copyIs(x, i - 1, n, 0, m, 0);
                }
            }
        }
    }

    private static void copyIs(RideTie x, int i, int n, int j, int m, int count) {
        boolean fits = i >= 0 && j >= 0 && count >= 0 && (long) i + count <= n && (long) j + count <= m;
        String name = "copy of " + count + " from " + i + " of " + n + " to " + j + " of " + m;
        Checks.due(name, x.copy(1, i, 2, j, count), fits ? count : -13);
        Checks.due("fault() behind " + name, x.fault(), fits ? 0 : 3);
    }

    private static void copiesOntoTheSame() {
        for (int i = 0; i <= 5; i++) {
            for (int j = 0; j <= 5; j++) {
                for (int n = 0; n <= 5 - Math.max(i, j); n++) {
                    RideTie x = new RideTie();
                    Checks.write(x, 3, 2, 10, 11, 12, 13, 14);
                    Checks.due("copy", x.copy(3, i, 3, j, n), n);
                    for (int c = 0; c < 5; c++) {
                        int want = c >= j && c < j + n ? 10 + c - j + i : 10 + c;
                        Checks.due("cell " + c + " behind copy(" + i + ", " + j + ", " + n + ")", x.cell(3, c, 2), want);
                    }
                }
            }
        }
    }

    private static void copiesAreAsTheyWere() {
        int[] ends = {-128, -32768, Integer.MIN_VALUE};
        for (int lane = 0; lane < 3; lane++) {
            RideTie x = new RideTie();
            Checks.write(x, 0, lane, 1, ends[lane], 3);
            Checks.write(x, 1, lane, 4, 5, 6, 7);
            Checks.due("copy", x.copy(0, 1, 1, 2, 2), 2);
            int[] want = {4, 5, ends[lane], 3};
            for (int i = 0; i < 4; i++) {
                Checks.due("cell " + i, x.cell(1, i, lane), want[i]);
            }
            Checks.due("the first is as it was", x.cell(0, 1, lane), ends[lane]);
            x.put(0, 1, 9);
            Checks.due("they are two rows", x.cell(1, 2, lane), ends[lane]);
            for (int other = 0; other < 3; other++) {
                x.sheet(2, other, 3);
                Checks.due("from LANE " + lane + " to " + other, x.copy(0, 0, 2, 0, 3), other == lane ? 3 : -12);
                Checks.due("fault()", x.fault(), other == lane ? 0 : 2);
            }
            Checks.due("to nothing", x.copy(0, 0, 3, 0, 0), -11);
            Checks.due("of nothing", x.copy(3, 0, 0, 0, 0), -11);
        }
    }

    private static void bodiesOfEachKind() {
        for (int ridden = 0; ridden <= 6; ridden++) {
            RideTie x = Checks.with("m101010;p1,1,1,99;p1,1,1,99;b1,1,1,2,0,99;b1,1,1,2,0,99");
            int[] cells = new int[6];
            for (int i = 0; i < ridden; i++) {
                cells[5 - i] = 1 + i % 2;
            }
            for (int kind = 0; kind < 3; kind++) {
                Checks.draw(x, kind, 0, kind == 0 ? 0 : 2, kind == 2 ? 7 : 0, cells);
            }
            int[][] bodies = {{1}, {2, 1}, {3, 2, 1, 1}};
            int[] tells = {ridden, ridden + 100, 2 * ridden + 100};
            int due = 0;
            for (int q = 2; q >= 0; q--) {
                Checks.due("tell, WRONG or not", x.tell(q), tells[q]);
                for (int body : bodies[q]) {
                    due = 31 * due + body;
                }
                Checks.due("trace", x.trace(), due);
                Checks.due("call", x.call(q), q == 2 ? 60 : q);
                due = 31 * due + (q == 2 ? 5 : 4);
                Checks.due("trace", x.trace(), due);
            }
            Checks.due("refused bodies leave nothing", x.tell(3) + x.call(3) + x.tell(-1) + x.call(-1), -4);
            Checks.due("trace", x.trace(), due);
        }
        // its own cells alone: not those that stand ahead of them and behind them in the SHEET
        RideTie z = Checks.with("m1010;p1,1,1,99;b1,1,1,2,0,99");
        Checks.write(z, 0, 0, 1, 1, 0, 1, 1, 1);
        Checks.due("plan", z.plan(0, 0, 0, 0, 0, 0, 2, 2), 0);
        Checks.due("tell", z.tell(0), 1);
        // the number of that PLAN: the last of ten
        RideTie y = Checks.with("m10;p1,1,1,99");
        for (int q = 0; q < 10; q++) {
            Checks.draw(y, 0, 0, 0, 0, 0);
        }
        for (int q = 0; q < 10; q++) {
            Checks.due("call", y.call(q), q);
        }
        Checks.due("call", y.call(10), RideTie.UNKNOWN);
    }

    private static void traceWraps() {
        RideTie x = Checks.planned("m10;p1,1,1,99", 0);
        Checks.due("0 at first", x.trace(), 0);
        BigInteger whole = BigInteger.ZERO;
        for (int turn = 0; turn < 200; turn++) {
            int body = turn % 3 == 0 ? 4 : 1;
            if (body == 4) {
                x.call(0);
            } else {
                x.tell(0);
            }
            whole = whole.multiply(BigInteger.valueOf(31)).add(BigInteger.valueOf(body));
            Checks.due("trace of " + (turn + 1), x.trace(), whole.intValue());
        }
    }

    private static void asOneOfAKind() {
        RideTie x = World.fill();
        for (int q = 0; q < 3; q++) {
            for (int kind = 0; kind < 3; kind++) {
                Checks.due("as(" + q + ", " + kind + ")", x.as(q, kind), kind <= q ? 1 : -12);
                Checks.due("fault()", x.fault(), kind <= q ? 0 : 2);
            }
        }
    }

    private static void faultOfTheLatest() {
        RideTie x = new RideTie();
        Checks.due("0 ahead of any", x.fault(), 0);
        x.lose(9);
        x.ofRoad(0, 0);
        Checks.due("0 ahead of any", x.fault(), 0);
        World.Call[] names = {y -> y.sheet(1, 0, -1), y -> y.sheet(1, 0, 121), y -> y.put(1, 0, 0), y -> y.put(4, 0, 0),
            y -> y.sheet(1, 1, 2), y -> y.put(1, 2, 0), y -> y.put(1, 1, 0), y -> y.cell(1, 0, 0), y -> y.cell(1, 0, 3),
            y -> y.cell(1, 9, 1), y -> y.cell(1, 1, 1), y -> y.cell(2, 0, 1), y -> y.copy(4, 0, 0, 0, 0),
            y -> y.copy(1, 0, 0, 0, 0), y -> y.copy(1, 0, 1, 0, 2), y -> y.copy(1, 0, 1, 1, 2), y -> y.sheet(0, 2, 2),
            y -> y.copy(1, 0, 0, 0, 2), y -> y.road(1, 1, 0, 2), y -> y.road(1, 0, 0, 2), y -> y.road(4, 0, 0, 2),
            y -> y.road(1, 1, 0, -1), y -> y.road(1, 3, 0, -1), y -> y.road(1, 1, 0, 3), y -> y.road(3, 1, 0, 3),
            y -> y.as(0, 0), y -> y.road(1, 1, 0, 3), y -> y.plan(0, 0, 0, 0, 1, 1, 0, 3)};
        int[] faults = {4, 0, 1, 0, 0, 3, 0, 2, 0, 3, 0, 1, 0, 1, 0, 3, 0, 2, 0, 2, 0, 4, 0, 3, 1, 0, 3, 0};
        for (int i = 0; i < names.length; i++) {
            names[i].on(x);
            Checks.due("fault() behind call " + i, x.fault(), faults[i]);
            Checks.due("fault() again", x.fault(), faults[i]);
        }
    }

    /** Such calls leave fault() as it was, whether they are refused or not. */
    private static void callsThatNameNoFault() {
        World.Call[] calls = {x -> x.ofRoad(0, 0), x -> x.ofRoad(9, 0), x -> x.ofPiece(0, 0, 0), x -> x.ofPiece(0, 0, 9),
            x -> x.ofPerson(0, 0, 0), x -> x.ofPerson(0, 9, 0), x -> x.ofBeast(0, 0, 0), x -> x.ofBeast(0, 0, 9),
            x -> x.lame(0, 0, 0), x -> x.lame(0, 9, 0), x -> x.walks(0, 0, 0), x -> x.walks(0, 0, 9),
            x -> x.rides(0, 0, 0), x -> x.rides(0, 9, 0), x -> x.gone(4), x -> x.gone(13), x -> x.ofPlan(0, 0),
            x -> x.ofPlan(0, 9), x -> x.does(0, 0, 0), x -> x.does(9, 0, 0), x -> x.wrong(0), x -> x.wrong(9),
            x -> x.there(0, 0, 0), x -> x.there(2, 0, 0), x -> x.came(0, 0, 0), x -> x.came(2, 0, 0),
            x -> x.went(0, 0, 0), x -> x.went(0, 0, 2), x -> x.outcome(0, 0), x -> x.outcome(2, 0), x -> x.walked(0, 0),
            x -> x.walked(2, 0), x -> x.safe(0, 0), x -> x.safe(2, 0), x -> x.best(0, 0, 0, 0), x -> x.best(0, 0, 13, 0),
            x -> x.row(0, 0, 0, 0, 0), x -> x.row(0, 0, 0, 9, 0), x -> x.cost(0), x -> x.cost(9), x -> x.fewest(0),
            x -> x.fewest(9), x -> x.rows(0), x -> x.rows(9), x -> x.even(0, 0), x -> x.even(0, 9),
            x -> x.share(0, 0, 0), x -> x.share(0, 9, 0), x -> x.lose(0), x -> x.lose(1), x -> x.lose(9), x -> x.tell(0),
            x -> x.tell(9), x -> x.call(0), x -> x.call(9), x -> x.trace(), x -> x.fault(), x -> x.many(0),
            x -> x.many(9)};
        for (int i = 0; i < calls.length; i++) {
            RideTie x = World.fill();
            calls[i].on(x);
            Checks.due("fault() behind call " + i, x.fault(), World.LEFT);
        }
    }

    private static void manyOfAll() {
        RideTie x = new RideTie();
        String[] texts = {"m10;p1,1,1,1;p1,1,1,1;p1,1,1,1;p1,1,1,1;b1,1,1,1,1,9;b1,1,1,1,1,9", "m10;p1,1,1,1",
            "m10;p1,1,1,1;p1,1,1,1;b1,1,1,1,1,9"};
        int[][] due = {{0, 0, 0, 0}, {1, 0, 4, 2}, {2, 0, 5, 2}, {3, 0, 7, 3}, {3, 0, 7, 3}};
        for (int road = 0; road <= 4; road++) {
            for (int what = 0; what < 4; what++) {
                Checks.due("many(" + what + ")", x.many(what), due[road][what]);
            }
            if (road < 4) {
                Checks.due("road", Checks.read(x, texts[road % 3]), road < 3 ? road : RideTie.FULL);
            }
        }
        // as many as there can be
        RideTie y = new RideTie();
        for (int road = 0; road < 3; road++) {
            Checks.read(y, texts[0]);
        }
        int[] most = {3, 0, 12, 6};
        for (int what = 0; what < 4; what++) {
            Checks.due("many(" + what + ")", y.many(what), most[what]);
        }
        for (int what : new int[] {-1, 4, Integer.MAX_VALUE, Integer.MIN_VALUE}) {
            Checks.due("many(" + what + ")", y.many(what), RideTie.OUTSIDE);
        }
    }

    /** An object is used for 512 calls at most: the last of them answers as all others do. */
    private static void fiveHundredAndTwelveCalls() {
        RideTie x = new RideTie();
        x.sheet(0, 2, 120);
        for (int i = 0; i < 510; i++) {
            x.put(0, i % 120, i);
        }
        Checks.due("the last call", x.cell(0, 29, 2), 509);
        RideTie y = new RideTie();
        for (int i = 0; i < 511; i++) {
            y.gone(i % 13);
        }
        Checks.due("the last call", y.gone(0), 510 % 13);
    }
}
