/**
 * Each refusal and each FAULT that a promise's line names: of several the first in the order told, and
 * nothing but fault() is other than it was. Each row spoils all that stands behind it in the line, too.
 */
public final class RefusalsTest {
    private static final int UNKNOWN = RideTie.UNKNOWN;
    private static final int OUTSIDE = RideTie.OUTSIDE;
    private static final int STATE = RideTie.STATE;
    private static final long LOST = RideTie.LOST;
    private static final int NONE = RideTie.NONE;
    private static final int NULL = -11;
    private static final int CAST = -12;
    private static final int INDEX = -13;
    private static final int SIZE = -14;
    private static final int MAX = Integer.MAX_VALUE;
    private static final int MIN = Integer.MIN_VALUE;
    /** No ROAD, PLAN, PERSON, PIECE, BEAST of World has such a number. */
    private static final int[] NO_NUMBERS = {-1, 3, 4, 10, NONE, MAX, MIN};

    public static void main(String[] args) {
        worldIsAsItTells();
        road();
        roadOfCells();
        ofRoadAndItsParts();
        lame();
        walksAndRides();
        gone();
        planByNumbers();
        planByCells();
        ofPlanAndDoes();
        questionsOfPlans();
        questionsOfWrongPlans();
        best();
        evenAndShare();
        sheetAndLose();
        put();
        cell();
        copy();
        tellCallAs();
        many();
        Checks.end();
    }

    private static void worldIsAsItTells() {
        RideTie x = World.fill();
        Checks.due("fault()", x.fault(), World.LEFT);
        Checks.due("trace()", x.trace(), 2 * 31 + 1);
        int[] many = {1, 3, 2, 1};
        int[] wrong = {NONE, NONE, 101};
        for (int what = 0; what < 4; what++) {
            Checks.due("many(" + what + ")", x.many(what), many[what]);
        }
        for (int q = 0; q < 3; q++) {
            Checks.due("wrong(" + q + ")", x.wrong(q), wrong[q]);
            Checks.due("kind", x.ofPlan(q, 0), q);
        }
        for (int i = 0; i < World.CELLS.length; i++) {
            Checks.due("cell of SHEET 2", x.cell(2, i, 2), World.CELLS[i]);
        }
        Checks.due("SHEET 1 has nothing", x.lose(1), 0);
        Checks.due("LAME", x.ofRoad(0, 4), 1);
        Checks.due("GONE", x.gone(5), 5);
        Checks.hold("no two of such are unlike", World.seen(x).equals(World.seen(World.fill())));
    }

    private static void road() {
        for (int k : new int[] {-1, 4, MAX, MIN}) {
            World.refuses("road of SHEET " + k, UNKNOWN, 0, x -> x.road(k, 3, -1, -1));
            World.refuses("road of SHEET " + k, UNKNOWN, 0, x -> x.road(k, 0, 0, 43));
        }
        for (int lane : new int[] {-1, 3, MAX, MIN}) {
            World.refuses("road of LANE " + lane, OUTSIDE, 0, x -> x.road(0, lane, -1, -1));
            World.refuses("road of nothing, LANE " + lane, OUTSIDE, 0, x -> x.road(1, lane, -1, -1));
            World.refuses("road of LANE " + lane, OUTSIDE, 0, x -> x.road(0, lane, 0, 43));
        }
    }

    private static void roadOfCells() {
        World.refuses("bytes as shorts", CAST, 2, x -> x.road(0, 1, -1, -1));
        World.refuses("bytes as ints", CAST, 2, x -> x.road(0, 2, 0, 43));
        World.refuses("shorts as bytes", CAST, 2, x -> x.road(3, 0, -1, -1));
        World.refuses("ints as shorts", CAST, 2, x -> x.road(2, 1, 0, 0));
        for (int lane = 0; lane < 3; lane++) {
            int l = lane;
            World.refuses("nothing as LANE " + l, NULL, 1, x -> x.road(1, l, -1, -1));
            World.refuses("nothing as LANE " + l, NULL, 1, x -> x.road(1, l, 0, 0));
        }
        for (int n : new int[] {-1, MIN}) {
            World.refuses("road of n " + n, SIZE, 4, x -> x.road(0, 0, -1, n));
            World.refuses("road of n " + n, SIZE, 4, x -> x.road(0, 0, 44, n));
            World.refuses("road of n " + n, SIZE, 4, x -> x.road(0, 0, 0, n));
        }
        int[][] beyond = {{-1, 0}, {44, 0}, {-1, 1}, {43, 1}, {42, 2}, {0, 44}, {1, 43}, {MIN, 0}, {MAX, 0}, {MAX, MAX},
            {MAX, 1}, {1, MAX}, {MIN, 1}, {-1, MAX}};
        for (int[] cells : beyond) {
            World.refuses("road of cells " + cells[0] + ", " + cells[1], INDEX, 3, x -> x.road(0, 0, cells[0], cells[1]));
        }
        World.refuses("road of no cell at the start", -100, 0, x -> x.road(0, 0, 0, 0));
        World.refuses("road of no cell at the end", -100, 0, x -> x.road(0, 0, 43, 0));
        World.refuses("road of a cell at the end", -100, 0, x -> x.road(0, 0, 42, 1));
        World.refuses("road of all cells but one", -142, 0, x -> x.road(0, 0, 0, 42));
        World.refuses("road of a TEXT that ends too soon", -141, 0, x -> x.road(0, 0, 0, 41));
        World.refuses("road of ints", -100, 0, x -> x.road(2, 2, 0, 13));
    }

    private static void ofRoadAndItsParts() {
        for (int no : NO_NUMBERS) {
            World.refuses("ofRoad of ROAD " + no, UNKNOWN, x -> x.ofRoad(no, 6));
            World.refuses("ofPiece of ROAD " + no, UNKNOWN, x -> x.ofPiece(no, 0, 2));
            World.refuses("ofPiece of PIECE " + no, UNKNOWN, x -> x.ofPiece(0, no, 2));
            World.refuses("ofPerson of ROAD " + no, UNKNOWN, x -> x.ofPerson(no, 0, 4));
            World.refuses("ofPerson of PERSON " + no, UNKNOWN, x -> x.ofPerson(0, no, 4));
            World.refuses("ofBeast of ROAD " + no, UNKNOWN, x -> x.ofBeast(no, 0, 6));
            World.refuses("ofBeast of BEAST " + no, UNKNOWN, x -> x.ofBeast(0, no, 6));
        }
        World.refuses("ofRoad of ROAD 1", UNKNOWN, x -> x.ofRoad(1, 0));
        World.refuses("ofPiece of PIECE 2", UNKNOWN, x -> x.ofPiece(0, 2, 0));
        World.refuses("ofPerson of PERSON 2", UNKNOWN, x -> x.ofPerson(0, 2, 0));
        World.refuses("ofBeast of BEAST 1", UNKNOWN, x -> x.ofBeast(0, 1, 0));
        for (int what : new int[] {-1, 6, MAX, MIN}) {
            World.refuses("ofRoad, what " + what, OUTSIDE, x -> x.ofRoad(0, what));
            World.refuses("ofBeast, what " + what, OUTSIDE, x -> x.ofBeast(0, 0, what));
        }
        for (int what : new int[] {-1, 2, MAX, MIN}) {
            World.refuses("ofPiece, what " + what, OUTSIDE, x -> x.ofPiece(0, 0, what));
        }
        for (int what : new int[] {-1, 4, MAX, MIN}) {
            World.refuses("ofPerson, what " + what, OUTSIDE, x -> x.ofPerson(0, 0, what));
        }
    }

    private static void lame() {
        for (int no : new int[] {-1, 1, 3, MAX, MIN, NONE}) {
            World.refuses("lame of ROAD " + no, UNKNOWN, x -> x.lame(no, 0, 0));
            World.refuses("lame of ROAD " + no + ", nobody", UNKNOWN, x -> x.lame(no, NONE, 0));
        }
        for (int p : new int[] {-1, 2, 4, MAX, MIN, -8, -10}) {
            World.refuses("lame of PERSON " + p, UNKNOWN, x -> x.lame(0, p, 0));
        }
        for (int k : new int[] {-1, 2, 6, MAX, MIN, NONE}) {
            World.refuses("lame from PIECE " + k, UNKNOWN, x -> x.lame(0, 0, k));
            World.refuses("lame from PIECE " + k, UNKNOWN, x -> x.lame(0, 1, k));
        }
    }

    private static void walksAndRides() {
        for (int no : NO_NUMBERS) {
            World.refuses("walks on ROAD " + no, UNKNOWN, x -> x.walks(no, 0, 0));
            World.refuses("walks of PERSON " + no, UNKNOWN, x -> x.walks(0, no, 0));
            World.refuses("walks of PIECE " + no, UNKNOWN, x -> x.walks(0, 0, no));
            World.refuses("rides on ROAD " + no, UNKNOWN, x -> x.rides(no, 0, 0));
            World.refuses("rides of BEAST " + no, UNKNOWN, x -> x.rides(0, no, 0));
            World.refuses("rides of PIECE " + no, UNKNOWN, x -> x.rides(0, 0, no));
        }
        World.refuses("walks of PIECE 2", UNKNOWN, x -> x.walks(0, 1, 2));
        World.refuses("walks of PERSON 2", UNKNOWN, x -> x.walks(0, 2, 1));
        World.refuses("rides of PIECE 2", UNKNOWN, x -> x.rides(0, 0, 2));
        World.refuses("rides of BEAST 1", UNKNOWN, x -> x.rides(0, 1, 1));
    }

    private static void gone() {
        for (int v : new int[] {-1, 13, MAX, MIN, NONE}) {
            World.refuses("gone " + v, OUTSIDE, x -> x.gone(v));
        }
    }

    private static void planByNumbers() {
        for (int k : new int[] {-1, 4, MAX, MIN}) {
            World.refuses("plan of SHEET " + k, UNKNOWN, 0, x -> x.plan(3, 1, 9, 99, k, 3, -1, -1));
            World.refuses("plan of SHEET " + k, UNKNOWN, 0, x -> x.plan(0, 0, 0, 0, k, 2, 0, 4));
        }
        for (int no : new int[] {-1, 1, 3, MAX, MIN}) {
            World.refuses("plan of ROAD " + no, UNKNOWN, 0, x -> x.plan(3, no, 9, 99, 2, 3, -1, -1));
            World.refuses("plan of ROAD " + no, UNKNOWN, 0, x -> x.plan(0, no, 0, 0, 2, 2, 0, 4));
            World.refuses("plan of ROAD " + no + " by nothing", UNKNOWN, 0, x -> x.plan(0, no, 0, 0, 1, 2, 0, 4));
        }
        for (int kind : new int[] {-1, 3, MAX, MIN}) {
            World.refuses("plan of kind " + kind, OUTSIDE, 0, x -> x.plan(kind, 0, 0, 0, 1, 0, -1, -1));
            World.refuses("plan of kind " + kind, OUTSIDE, 0, x -> x.plan(kind, 0, 1, 5, 2, 2, 0, 4));
            World.refuses("plan of kind " + kind, OUTSIDE, 0, x -> x.plan(kind, 0, 1, 0, 2, 0, 0, 4));
        }
        for (int lane : new int[] {-1, 3, MAX, MIN}) {
            World.refuses("plan of LANE " + lane, OUTSIDE, 0, x -> x.plan(0, 0, 0, 0, 1, lane, -1, -1));
            World.refuses("plan of LANE " + lane, OUTSIDE, 0, x -> x.plan(0, 0, 0, 0, 2, lane, 0, 4));
        }
        int[][] wrong = {{1, 0, 0}, {1, 2, 0}, {1, -1, 0}, {1, MAX, 0}, {1, MIN, 0}, {2, 0, 5}, {2, 2, 5}, {2, -1, 5},
            {2, 1, 0}, {2, 1, 61}, {2, 1, -1}, {2, 1, MAX}, {2, 1, MIN}};
        for (int[] told : wrong) {
            String name = "plan of kind " + told[0] + ", GATE " + told[1] + ", minutes " + told[2];
            World.refuses(name, OUTSIDE, 0, x -> x.plan(told[0], 0, told[1], told[2], 2, 2, 0, 4));
            World.refuses(name, OUTSIDE, 0, x -> x.plan(told[0], 0, told[1], told[2], 1, 0, -1, -1));
            World.refuses(name, OUTSIDE, 0, x -> x.plan(told[0], 0, told[1], told[2], 2, 0, 0, -1));
        }
    }

    private static World.Call planOf(int sheet, int lane, int i, int n) {
        return x -> x.plan(0, 0, 0, 0, sheet, lane, i, n);
    }

    private static void planByCells() {
        World.refuses("plan by ints as bytes", CAST, 2, planOf(2, 0, -1, -1));
        World.refuses("plan by ints as shorts", CAST, 2, planOf(2, 1, 0, 4));
        World.refuses("plan by bytes as ints", CAST, 2, planOf(0, 2, 44, 0));
        World.refuses("plan by nothing", NULL, 1, planOf(1, 0, -1, -1));
        World.refuses("plan by nothing", NULL, 1, planOf(1, 1, 0, 4));
        World.refuses("plan by nothing", NULL, 1, planOf(1, 2, 0, 0));
        for (int n : new int[] {-1, -4, MIN}) {
            World.refuses("plan of n " + n, SIZE, 4, planOf(2, 2, -1, n));
            World.refuses("plan of n " + n, SIZE, 4, planOf(2, 2, 0, n));
        }
        int[][] beyond = {{-1, 0}, {14, 0}, {13, 1}, {10, 4}, {0, 14}, {-1, 4}, {MAX, 4}, {4, MAX}, {MIN, 4}, {MAX, MAX}};
        for (int[] cells : beyond) {
            World.refuses("plan of cells " + cells[0] + ", " + cells[1], INDEX, 3, planOf(2, 2, cells[0], cells[1]));
        }
        int[][] wrongLengths = {{0, 0}, {13, 0}, {0, 3}, {0, 5}, {5, 3}, {5, 5}, {9, 1}, {0, 13}};
        for (int[] cells : wrongLengths) {
            World.refuses("plan of cells " + cells[0] + ", " + cells[1], OUTSIDE, 0, planOf(2, 2, cells[0], cells[1]));
        }
        World.refuses("plan with BEAST 1 at the end", UNKNOWN, 0, planOf(2, 2, 2, 4));
        World.refuses("plan with BEAST 1 in the middle", UNKNOWN, 0, planOf(2, 2, 4, 4));
        World.refuses("plan with BEAST 1 at the start", UNKNOWN, 0, planOf(2, 2, 5, 4));
        World.refuses("plan with a cell below 0 at the end", UNKNOWN, 0, planOf(2, 2, 6, 4));
        World.refuses("plan with a cell below 0 in the middle", UNKNOWN, 0, planOf(2, 2, 8, 4));
        World.refuses("plan with a cell below 0 at the start", UNKNOWN, 0, planOf(2, 2, 9, 4));
    }

    private static void ofPlanAndDoes() {
        for (int no : NO_NUMBERS) {
            World.refuses("ofPlan of PLAN " + no, UNKNOWN, x -> x.ofPlan(no, 4));
            World.refuses("does of PLAN " + no, UNKNOWN, x -> x.does(no, 0, 0));
            World.refuses("does of PIECE " + no, UNKNOWN, x -> x.does(0, no, 0));
            World.refuses("does of PERSON " + no, UNKNOWN, x -> x.does(0, 0, no));
            World.refuses("wrong of PLAN " + no, UNKNOWN, x -> x.wrong(no));
        }
        World.refuses("does of PIECE 2", UNKNOWN, x -> x.does(0, 2, 1));
        World.refuses("does of PERSON 2", UNKNOWN, x -> x.does(0, 1, 2));
        for (int what : new int[] {-1, 4, MAX, MIN}) {
            World.refuses("ofPlan, what " + what, OUTSIDE, x -> x.ofPlan(0, what));
        }
    }

    private static void questionsOfPlans() {
        for (int no : NO_NUMBERS) {
            World.refuses("there of PLAN " + no, UNKNOWN, x -> x.there(no, 0, 0));
            World.refuses("came of PLAN " + no, UNKNOWN, x -> x.came(no, 0, 0));
            World.refuses("went of PLAN " + no, UNKNOWN, x -> x.went(no, 0, 0));
            World.refuses("walked of PLAN " + no, UNKNOWN, x -> x.walked(no, 0));
            World.refuses("outcome of PLAN " + no, UNKNOWN, x -> x.outcome(no, 5));
            World.refuses("safe of PLAN " + no, LOST, x -> x.safe(no, 0));
            // PLAN 2 is WRONG: these are refused ahead of that
            for (int q : new int[] {0, 2}) {
                World.refuses("there of PERSON " + no, UNKNOWN, x -> x.there(q, no, 0));
                World.refuses("there of GATE " + no, UNKNOWN, x -> x.there(q, 0, no));
                World.refuses("came of BEAST " + no, UNKNOWN, x -> x.came(q, no, 0));
                World.refuses("came of GATE " + no, UNKNOWN, x -> x.came(q, 0, no));
                World.refuses("went of PERSON " + no, UNKNOWN, x -> x.went(q, no, 0));
                World.refuses("went of GATE " + no, UNKNOWN, x -> x.went(q, 0, no));
                World.refuses("walked of PERSON " + no, UNKNOWN, x -> x.walked(q, no));
            }
        }
        for (int q : new int[] {0, 2}) {
            World.refuses("there of PERSON 2", UNKNOWN, x -> x.there(q, 2, 2));
            World.refuses("came of BEAST 1", UNKNOWN, x -> x.came(q, 1, 2));
            World.refuses("went of PERSON 2", UNKNOWN, x -> x.went(q, 2, 1));
            World.refuses("went from the last GATE", UNKNOWN, x -> x.went(q, 0, 2));
            World.refuses("walked of PERSON 2", UNKNOWN, x -> x.walked(q, 2));
            for (int what : new int[] {-1, 5, MAX, MIN}) {
                World.refuses("outcome, what " + what, OUTSIDE, x -> x.outcome(q, what));
            }
            for (int which : new int[] {-1, 2, MAX, MIN}) {
                World.refuses("safe, which " + which, LOST, x -> x.safe(q, which));
            }
        }
    }

    private static void questionsOfWrongPlans() {
        for (int gate = 0; gate <= 2; gate++) {
            int g = gate;
            World.refuses("there of a WRONG one", STATE, x -> x.there(2, g % 2, g));
            World.refuses("came of a WRONG one", STATE, x -> x.came(2, 0, g));
        }
        World.refuses("went of a WRONG one", STATE, x -> x.went(2, 0, 0));
        World.refuses("went of a WRONG one", STATE, x -> x.went(2, 1, 1));
        for (int what = 0; what < 5; what++) {
            int w = what;
            World.refuses("outcome of a WRONG one", STATE, x -> x.outcome(2, w));
        }
        World.refuses("walked of a WRONG one", STATE, x -> x.walked(2, 0));
        World.refuses("walked of a WRONG one", STATE, x -> x.walked(2, 1));
        World.refuses("safe of a WRONG one", LOST, x -> x.safe(2, 0));
        World.refuses("safe of a WRONG one", LOST, x -> x.safe(2, 1));
    }

    private static void best() {
        for (int no : NO_NUMBERS) {
            World.refuses("best of ROAD " + no, UNKNOWN, x -> x.best(no, 3, 13, 4));
            World.refuses("row of ROAD " + no, UNKNOWN, x -> x.row(no, 3, 13, 0, 0));
            World.refuses("row of PIECE " + no, UNKNOWN, x -> x.row(0, 3, 13, no, 0));
            World.refuses("row of PERSON " + no, UNKNOWN, x -> x.row(0, 3, 13, 0, no));
            World.refuses("cost of ROAD " + no, UNKNOWN, x -> x.cost(no));
            World.refuses("fewest of ROAD " + no, UNKNOWN, x -> x.fewest(no));
            World.refuses("rows of ROAD " + no, UNKNOWN, x -> x.rows(no));
        }
        World.refuses("row of PIECE 2", UNKNOWN, x -> x.row(0, 0, NONE, 2, 0));
        World.refuses("row of PERSON 2", UNKNOWN, x -> x.row(0, 0, NONE, 0, 2));
        for (int aim : new int[] {-1, 3, NONE, MAX, MIN}) {
            World.refuses("best by AIM " + aim, OUTSIDE, x -> x.best(0, aim, 0, 0));
            World.refuses("row by AIM " + aim, OUTSIDE, x -> x.row(0, aim, NONE, 0, 0));
        }
        for (int t : new int[] {-1, 13, -8, -10, MAX, MIN}) {
            World.refuses("best with t " + t, OUTSIDE, x -> x.best(0, 0, t, 0));
            World.refuses("row with t " + t, OUTSIDE, x -> x.row(0, 0, t, 0, 0));
        }
        for (int what : new int[] {-1, 4, MAX, MIN}) {
            World.refuses("best, what " + what, OUTSIDE, x -> x.best(0, 0, NONE, what));
        }
    }

    private static void evenAndShare() {
        for (int no : NO_NUMBERS) {
            World.refuses("even of ROAD " + no, LOST, x -> x.even(no, 0));
            World.refuses("share of ROAD " + no, LOST, x -> x.share(no, 0, 0));
            World.refuses("share of PERSON " + no, LOST, x -> x.share(0, no, 0));
        }
        World.refuses("share of PERSON 2", LOST, x -> x.share(0, 2, 1));
        for (int which : new int[] {-1, 2, MAX, MIN}) {
            World.refuses("even, which " + which, LOST, x -> x.even(0, which));
            World.refuses("share, which " + which, LOST, x -> x.share(0, 0, which));
        }
    }

    private static void sheetAndLose() {
        for (int k : new int[] {-1, 4, MAX, MIN}) {
            World.refuses("sheet of SHEET " + k, UNKNOWN, 0, x -> x.sheet(k, 3, 121));
            World.refuses("sheet of SHEET " + k, UNKNOWN, 0, x -> x.sheet(k, 0, -1));
            World.refuses("lose of SHEET " + k, UNKNOWN, x -> x.lose(k));
        }
        for (int sheet = 0; sheet < 4; sheet++) {
            int k = sheet;
            for (int lane : new int[] {-1, 3, MAX, MIN}) {
                World.refuses("sheet of LANE " + lane, OUTSIDE, 0, x -> x.sheet(k, lane, 0));
                World.refuses("sheet of LANE " + lane, OUTSIDE, 0, x -> x.sheet(k, lane, -1));
            }
            for (int n : new int[] {121, MAX}) {
                World.refuses("sheet of n " + n, OUTSIDE, 0, x -> x.sheet(k, 0, n));
            }
            for (int n : new int[] {-1, MIN}) {
                World.refuses("sheet of n " + n, SIZE, 4, x -> x.sheet(k, 2, n));
            }
        }
    }

    private static void put() {
        for (int k : new int[] {-1, 4, MAX, MIN}) {
            World.refuses("put to SHEET " + k, UNKNOWN, 0, x -> x.put(k, -1, 1));
        }
        for (int i : new int[] {-1, 0, 119, 120, MAX, MIN}) {
            World.refuses("put to nothing", NULL, 1, x -> x.put(1, i, 1));
        }
        for (int i : new int[] {-1, 3, 119, 120, MAX, MIN}) {
            World.refuses("put to cell " + i + " of 3", INDEX, 3, x -> x.put(3, i, 1));
        }
        World.refuses("put behind the TEXT", INDEX, 3, x -> x.put(0, 43, 1));
    }

    private static void cell() {
        for (int k : new int[] {-1, 4, MAX, MIN}) {
            World.refuses("cell of SHEET " + k, LOST, 0, x -> x.cell(k, -1, 3));
            World.refuses("cell of SHEET " + k, LOST, 0, x -> x.cell(k, 0, 0));
        }
        for (int lane : new int[] {-1, 3, MAX, MIN}) {
            World.refuses("cell of LANE " + lane, LOST, 0, x -> x.cell(0, -1, lane));
            World.refuses("cell of nothing of LANE " + lane, LOST, 0, x -> x.cell(1, -1, lane));
        }
        World.refuses("a byte as a short", LOST, 2, x -> x.cell(0, 43, 1));
        World.refuses("a byte as an int", LOST, 2, x -> x.cell(0, 0, 2));
        World.refuses("a short as a byte", LOST, 2, x -> x.cell(3, -1, 0));
        World.refuses("an int as a short", LOST, 2, x -> x.cell(2, 0, 1));
        for (int lane = 0; lane < 3; lane++) {
            int l = lane;
            World.refuses("a cell of nothing", LOST, 1, x -> x.cell(1, 0, l));
            World.refuses("a cell of nothing", LOST, 1, x -> x.cell(1, -1, l));
        }
        for (int i : new int[] {-1, 3, 119, 120, MAX, MIN}) {
            World.refuses("cell " + i + " of 3", LOST, 3, x -> x.cell(3, i, 1));
        }
    }

    private static World.Call copyOf(int k, int i, int other, int j, int n) {
        return x -> x.copy(k, i, other, j, n);
    }

    private static void copy() {
        for (int k : new int[] {-1, 4, MAX, MIN}) {
            World.refuses("copy of SHEET " + k, UNKNOWN, 0, copyOf(k, -1, 1, -1, -1));
            World.refuses("copy to SHEET " + k, UNKNOWN, 0, copyOf(1, -1, k, -1, -1));
            World.refuses("copy of SHEET " + k, UNKNOWN, 0, copyOf(k, 0, 0, 0, 1));
            World.refuses("copy to SHEET " + k, UNKNOWN, 0, copyOf(0, 0, k, 0, 1));
        }
        World.refuses("copy of nothing", NULL, 1, copyOf(1, -1, 0, -1, -1));
        World.refuses("copy to nothing", NULL, 1, copyOf(0, -1, 1, -1, -1));
        World.refuses("copy of nothing", NULL, 1, copyOf(1, 0, 1, 0, 0));
        World.refuses("copy of bytes to shorts", CAST, 2, copyOf(0, -1, 3, -1, -1));
        World.refuses("copy of shorts to bytes", CAST, 2, copyOf(3, 0, 0, 0, 1));
        World.refuses("copy of ints to shorts", CAST, 2, copyOf(2, 0, 3, 0, 0));
        int[][] beyond = {{-1, 0, 0}, {0, -1, 0}, {0, 0, -1}, {-1, 0, 1}, {0, -1, 1}, {4, 0, 0}, {0, 4, 0}, {3, 0, 1},
            {0, 3, 1}, {0, 0, 4}, {1, 0, 3}, {0, 1, 3}, {MAX, 0, 1}, {0, MAX, 1}, {0, 0, MAX}, {1, 0, MAX}, {0, 1, MAX},
            {MAX, MAX, MAX}, {MIN, 0, 0}, {0, MIN, 0}, {0, 0, MIN}, {3, 3, -1}};
        for (int[] cells : beyond) {
            String name = "copy of cells " + cells[0] + ", " + cells[1] + ", " + cells[2];
            World.refuses(name, INDEX, 3, copyOf(3, cells[0], 3, cells[1], cells[2]));
        }
    }

    private static void tellCallAs() {
        for (int no : NO_NUMBERS) {
            World.refuses("tell of PLAN " + no, UNKNOWN, x -> x.tell(no));
            World.refuses("call of PLAN " + no, UNKNOWN, x -> x.call(no));
            World.refuses("as of PLAN " + no, UNKNOWN, 0, x -> x.as(no, 3));
        }
        for (int q = 0; q < 3; q++) {
            int plan = q;
            for (int kind : new int[] {-1, 3, MAX, MIN}) {
                World.refuses("as of kind " + kind, OUTSIDE, 0, x -> x.as(plan, kind));
            }
        }
        World.refuses("a PLAN as a MEET", CAST, 2, x -> x.as(0, 1));
        World.refuses("a PLAN as a REST", CAST, 2, x -> x.as(0, 2));
        World.refuses("a MEET as a REST", CAST, 2, x -> x.as(1, 2));
    }

    private static void many() {
        for (int what : new int[] {-1, 4, MAX, MIN}) {
            World.refuses("many " + what, OUTSIDE, x -> x.many(what));
        }
    }
}
