/** Promises 11 to 20: PLANS. */
public final class PlansTest {
    private static final String ALL_ALONE = "m909090;p10,10,10,99;b2,2,2,1,7,";

    public static void main(String[] args) {
        planTold();
        planRefusedByNumbers();
        planRefusedByCells();
        ofPlan();
        does();
        wrong();
        wrongInOrder();
        rideAndTie();
        meetAndRest();
        twoOnOneBeast();
        ridersWaitForEachOther();
        leftBehind();
        limit();
        lamePlans();
        alone();
        safe();
        refusedQuestions();
        wrongPlansTellNothing();
        Checks.end();
    }

    private static void planTold() {
        for (int lane = 0; lane < 3; lane++) {
            RideTie x = Checks.with(Checks.TWO_AND_ONE);
            Checks.write(x, 3, lane, 0, 1, 0, 0, 1, 2);
            Checks.due("plan", x.plan(0, 0, 0, 0, 3, lane, 1, 4), 0);
            x.put(3, 1, 0);
            Checks.due("it is kept", x.does(0, 0, 0), 1);
            for (int q = 1; q < 10; q++) {
                Checks.due("plan", x.plan(0, 0, 0, 0, 3, lane, 1, 4), q);
            }
            Checks.due("full", x.plan(0, 0, 0, 0, 3, lane, 1, 4), RideTie.FULL);
            Checks.due("BEAST ahead of full", x.plan(0, 0, 0, 0, 3, lane, 2, 4), RideTie.UNKNOWN);
            Checks.due("many", x.many(1), 10);
        }
    }

    private static void planRefusedByNumbers() {
        RideTie x = Checks.with(Checks.TWO_AND_ONE);
        x.lose(3);
        int none = RideTie.UNKNOWN;
        int outside = RideTie.OUTSIDE;
        x.put(3, 0, 0);
        Checks.due("sheet", x.plan(3, 0, 9, 99, 4, 3, -1, -1), none);
        Checks.due("sheet", x.plan(0, 0, 0, 0, -1, 0, 0, 4), none);
        Checks.due("road", x.plan(3, 1, 9, 99, 3, 3, -1, -1), none);
        Checks.due("road", x.plan(0, -1, 0, 0, 3, 0, 0, 4), none);
        Checks.due("refused, so no fault", x.fault(), 0);
        Checks.due("kind", x.plan(3, 0, 0, 0, 3, 0, -1, -1), outside);
        Checks.due("kind", x.plan(3, 0, 1, 0, 3, 0, -1, -1), outside);
        Checks.due("kind", x.plan(3, 0, 1, 9, 3, 0, -1, -1), outside);
        Checks.due("kind", x.plan(-1, 0, 0, 0, 3, 0, -1, -1), outside);
        Checks.due("lane", x.plan(0, 0, 0, 0, 3, 3, -1, -1), outside);
        Checks.due("lane", x.plan(0, 0, 0, 0, 3, -1, -1, -1), outside);
        Checks.due("gate of a PLAN", x.plan(0, 0, 1, 0, 3, 0, 0, 4), outside);
        Checks.due("minutes of a PLAN", x.plan(0, 0, 0, 1, 3, 0, 0, 4), outside);
        Checks.due("gate of a MEET", x.plan(1, 0, 0, 0, 3, 0, 0, 4), outside);
        Checks.due("the last gate", x.plan(1, 0, 2, 0, 3, 0, 0, 4), outside);
        Checks.due("gate of a MEET", x.plan(1, 0, -1, 0, 3, 0, 0, 4), outside);
        Checks.due("minutes of a MEET", x.plan(1, 0, 1, 1, 3, 0, 0, 4), outside);
        Checks.due("gate of a REST", x.plan(2, 0, 0, 1, 3, 0, 0, 4), outside);
        Checks.due("gate of a REST", x.plan(2, 0, 2, 1, 3, 0, 0, 4), outside);
        Checks.due("minutes of a REST", x.plan(2, 0, 1, 0, 3, 0, 0, 4), outside);
        Checks.due("minutes of a REST", x.plan(2, 0, 1, 61, 3, 0, 0, 4), outside);
        Checks.due("many", x.many(1), 0);
        RideTie y = Checks.with("m10;p1,1,1,1");
        Checks.due("no gate between", Checks.draw(y, 1, 0, 1, 0, 0), outside);
        Checks.due("no gate between", Checks.draw(y, 2, 0, 0, 1, 0), outside);
        Checks.due("one PIECE", Checks.draw(y, 0, 0, 0, 0, 0), 0);
    }

    private static void refusedCells(RideTie x, int lane, int i, int n, int want, int fault) {
        x.put(0, -1, 0);
        Checks.due("plan of cells " + i + ", " + n, x.plan(0, 0, 0, 0, 3, lane, i, n), want);
        Checks.due("fault", x.fault(), fault);
    }

    private static void planRefusedByCells() {
        RideTie x = Checks.with(Checks.TWO_AND_ONE);
        refusedCells(x, 1, -1, -1, -11, 1);
        Checks.write(x, 3, 1, 0, 0, 0, 0, 0, 2, 0, 0, 0, -1);
        refusedCells(x, 0, -1, -1, -12, 2);
        refusedCells(x, 1, -1, -1, -14, 4);
        refusedCells(x, 1, -1, 0, -13, 3);
        refusedCells(x, 1, 11, 0, -13, 3);
        refusedCells(x, 1, 7, 4, -13, 3);
        refusedCells(x, 1, 2, Integer.MAX_VALUE, -13, 3);
        refusedCells(x, 1, Integer.MAX_VALUE, 4, -13, 3);
        refusedCells(x, 1, 10, 0, RideTie.OUTSIDE, 0);
        refusedCells(x, 1, 5, 3, RideTie.OUTSIDE, 0);
        refusedCells(x, 1, 5, 5, RideTie.OUTSIDE, 0);
        refusedCells(x, 1, 5, 4, RideTie.UNKNOWN, 0);
        refusedCells(x, 1, 2, 4, RideTie.UNKNOWN, 0);
        refusedCells(x, 1, 6, 4, RideTie.UNKNOWN, 0);
        refusedCells(x, 1, 1, 4, 0, 0);
        RideTie y = Checks.with("m10;p1,1,1,1");
        Checks.due("no BEAST at all", Checks.draw(y, 0, 0, 0, 0, 1), RideTie.UNKNOWN);
    }

    private static void ofPlan() {
        RideTie x = Checks.with(Checks.TWO_AND_ONE);
        Checks.due("road", Checks.read(x, Checks.TWO_AND_ONE), 1);
        Checks.draw(x, 0, 0, 0, 0, 0, 0, 0, 0);
        Checks.draw(x, 1, 1, 1, 0, 0, 0, 0, 0);
        Checks.draw(x, 2, 1, 1, 60, 0, 0, 0, 0);
        int[][] told = {{0, 0, 0, 0}, {1, 1, 1, 0}, {2, 1, 1, 60}};
        for (int q = 0; q < 3; q++) {
            for (int what = 0; what < 4; what++) {
                Checks.due("ofPlan(" + q + ", " + what + ")", x.ofPlan(q, what), told[q][what]);
            }
        }
        Checks.due("what", x.ofPlan(0, 4), RideTie.OUTSIDE);
        Checks.due("what", x.ofPlan(0, -1), RideTie.OUTSIDE);
        Checks.due("plan", x.ofPlan(3, 4), RideTie.UNKNOWN);
        Checks.due("plan", x.ofPlan(-1, 0), RideTie.UNKNOWN);
    }

    private static void does() {
        RideTie x = Checks.planned("m304150;p20,25,30,99;p15,20,40,5;b5,6,9,1,3,9;b5,6,9,1,3,9", 0, 1, 2, 0, 1, 2);
        int[][] told = {{0, 1}, {2, 0}, {1, 2}};
        for (int k = 0; k < 3; k++) {
            for (int p = 0; p < 2; p++) {
                Checks.due("does(0, " + k + ", " + p + ")", x.does(0, k, p), told[k][p]);
            }
        }
        Checks.due("piece", x.does(0, 3, 0), RideTie.UNKNOWN);
        Checks.due("piece", x.does(0, -1, 0), RideTie.UNKNOWN);
        Checks.due("person", x.does(0, 0, 2), RideTie.UNKNOWN);
        Checks.due("person", x.does(0, 0, -1), RideTie.UNKNOWN);
        Checks.due("plan", x.does(1, 0, 0), RideTie.UNKNOWN);
        Checks.due("plan", x.does(-1, 0, 0), RideTie.UNKNOWN);
    }

    private static void wrongOf(String text, int want, int... cells) {
        RideTie x = Checks.planned(text, cells);
        Checks.due("wrong by " + text, x.wrong(0), want);
    }

    private static void wrong() {
        wrongOf(Checks.TWO_AND_ONE, RideTie.NONE, 1, 0, 0, 1);
        // the BEAST was left at GATE 0
        wrongOf(Checks.TWO_AND_ONE, 101, 0, 0, 1, 0);
        // it is ridden by two, and holds one
        wrongOf(Checks.TWO_AND_ONE, 12, 1, 1, 0, 0);
        // PERSON 1 walks five miles at most
        wrongOf(Checks.TWO_AND_ONE, 113, 1, 0, 1, 0);
        wrongOf("m41;p1,1,1,4", RideTie.NONE, 0);
        wrongOf("m41;p1,1,1,3", 3, 0);
        wrongOf("m41;p1,1,1,0;b1,1,1,1,1,9", RideTie.NONE, 1);
        // the BEAST was left at GATE 1 and is not at GATE 2
        wrongOf("m101010;p1,1,1,9;b1,1,1,1,1,9", 201, 1, 0, 1);
        wrongOf("m10;p1,1,1,9;p1,1,1,9;p1,1,1,9;b1,1,1,2,1,9", RideTie.NONE, 1, 0, 1);
        wrongOf("m10;p1,1,1,9;p1,1,1,9;p1,1,1,9;b1,1,1,2,1,9", 22, 1, 1, 1);
        wrongOf("m10;p1,1,1,9;p1,1,1,9;p1,1,1,9;b1,1,1,1,1,9;b1,1,1,2,1,9", RideTie.NONE, 2, 1, 2);
        RideTie x = Checks.with(Checks.TWO_AND_ONE);
        Checks.due("wrong(0)", x.wrong(0), RideTie.UNKNOWN);
        Checks.due("wrong(-1)", x.wrong(-1), RideTie.UNKNOWN);
    }

    private static void wrongInOrder() {
        // by PIECES, then by PEOPLE: PERSON 0 walks too far ahead of PERSON 1, who rides a full one
        wrongOf("m30;p1,1,1,2;p1,1,1,9;p1,1,1,9;b1,1,1,1,1,9", 3, 0, 1, 1);
        wrongOf("m30;p1,1,1,9;p1,1,1,9;p1,1,1,2;b1,1,1,1,1,9", 12, 1, 1, 0);
        wrongOf("m3010;p1,1,1,3;p1,1,1,9;b1,1,1,1,1,9", 103, 0, 0, 0, 1);
        wrongOf("m3010;p1,1,1,4;p1,1,1,9;b1,1,1,1,1,9", 111, 0, 0, 0, 1);
        // a beast left behind has no place to be too full
        wrongOf("m3010;p1,1,1,4;p1,1,1,9;b1,1,1,1,1,9", 101, 0, 0, 1, 1);
    }

    private static void thereIs(RideTie x, int q, int p, int... minutes) {
        for (int gate = 0; gate < minutes.length; gate++) {
            Checks.due("there(" + q + ", " + p + ", " + gate + ")", x.there(q, p, gate), minutes[gate]);
        }
    }

    private static void wentIs(RideTie x, int q, int p, int... minutes) {
        for (int gate = 0; gate < minutes.length; gate++) {
            Checks.due("went(" + q + ", " + p + ", " + gate + ")", x.went(q, p, gate), minutes[gate]);
        }
    }

    private static void cameIs(RideTie x, int q, int b, int... minutes) {
        for (int gate = 0; gate < minutes.length; gate++) {
            Checks.due("came(" + q + ", " + b + ", " + gate + ")", x.came(q, b, gate), minutes[gate]);
        }
    }

    private static void outcomeIs(RideTie x, int q, int... numbers) {
        for (int what = 0; what < numbers.length; what++) {
            Checks.due("outcome(" + q + ", " + what + ")", x.outcome(q, what), numbers[what]);
        }
    }

    private static void rideAndTie() {
        RideTie x = Checks.planned(Checks.TWO_AND_ONE, 1, 0, 0, 1);
        thereIs(x, 0, 0, 0, 15, 115);
        thereIs(x, 0, 1, 0, 45, 69);
        wentIs(x, 0, 0, 0, 15);
        wentIs(x, 0, 1, 0, 45);
        cameIs(x, 0, 0, 0, 15, 69);
        outcomeIs(x, 0, 115, 69, 4, 1, 1);
        Checks.due("walked", x.walked(0, 0), 4);
        Checks.due("walked", x.walked(0, 1), 3);
        // the beast comes last, and stands three minutes for its new rider
        x = Checks.planned("m9010;p1,1,1,99;p1,1,1,99;b60,1,1,1,30,99", 0, 1, 1, 0);
        thereIs(x, 0, 0, 0, 9, 630);
        wentIs(x, 0, 0, 0, 570);
        thereIs(x, 0, 1, 0, 540, 541);
        outcomeIs(x, 0, 630, 541, 9, 1, 1);
    }

    private static void meetAndRest() {
        RideTie x = Checks.with(Checks.TWO_AND_ONE);
        Checks.draw(x, 1, 0, 1, 0, 1, 0, 0, 1);
        Checks.draw(x, 2, 0, 1, 30, 1, 0, 0, 1);
        thereIs(x, 0, 0, 0, 45, 145);
        thereIs(x, 0, 1, 0, 45, 69);
        wentIs(x, 0, 0, 0, 45);
        cameIs(x, 0, 0, 0, 15, 69);
        thereIs(x, 1, 0, 0, 75, 175);
        thereIs(x, 1, 1, 0, 75, 99);
        wentIs(x, 1, 1, 0, 75);
        cameIs(x, 1, 0, 0, 15, 99);
        outcomeIs(x, 1, 175, 99, 4, 1, 1);
        // three PIECES: they meet at GATE 2 only; the beast has stood long before they have rested
        RideTie y = Checks.with("m102010;p5,5,5,99;p7,7,7,99;b2,2,2,1,30,99");
        Checks.draw(y, 1, 0, 2, 0, 1, 0, 1, 0, 0, 1);
        Checks.draw(y, 2, 0, 2, 60, 1, 0, 1, 0, 0, 1);
        thereIs(y, 0, 0, 0, 2, 21, 26);
        thereIs(y, 0, 1, 0, 7, 21, 38);
        cameIs(y, 0, 0, 0, 2, 6, 38);
        wentIs(y, 0, 1, 0, 7, 36);
        thereIs(y, 1, 1, 0, 7, 81, 83);
        wentIs(y, 1, 1, 0, 7, 81);
    }

    private static void twoOnOneBeast() {
        // both ride, then PERSON 0 alone: the beast stands, and is not alone if it stands no minute
        String text = "m1010;p9,9,9,99;p8,8,8,99;b2,2,2,2,";
        RideTie x = Checks.planned(text + "5,99", 1, 1, 1, 0);
        thereIs(x, 0, 0, 0, 2, 9);
        thereIs(x, 0, 1, 0, 2, 10);
        wentIs(x, 0, 0, 0, 7);
        wentIs(x, 0, 1, 0, 2);
        outcomeIs(x, 0, 10, 9, 1, 1, 1);
        RideTie y = Checks.planned(text + "0,99", 1, 1, 1, 0);
        outcomeIs(y, 0, 10, 4, 1, 1, 0);
        // the same two go on: no standing, no tie
        RideTie z = Checks.planned(text + "5,99", 1, 1, 1, 1);
        outcomeIs(z, 0, 4, 4, 0, 0, 0);
    }

    private static void ridersWaitForEachOther() {
        // PERSON 0 walks 9 minutes, PERSON 1 rides 2: both ride on as PERSON 0 is there
        RideTie x = Checks.planned("m1010;p9,9,9,99;p8,8,8,99;b2,2,2,2,5,99", 0, 1, 1, 1);
        wentIs(x, 0, 0, 0, 9);
        wentIs(x, 0, 1, 0, 9);
        thereIs(x, 0, 0, 0, 9, 11);
        thereIs(x, 0, 1, 0, 2, 11);
        outcomeIs(x, 0, 11, 11, 1, 1, 1);
    }

    private static void leftBehind() {
        // tied at GATE 1 and never ridden again: a tie, not one of those that are alone
        RideTie x = Checks.planned("m101010;p9,9,9,99;p8,8,8,99;b2,2,2,2,5,99", 1, 0, 0, 0, 0, 0);
        cameIs(x, 0, 0, 0, 2, RideTie.NONE, RideTie.NONE);
        outcomeIs(x, 0, 24, 20, 3, 1, 0);
        // never ridden: no tie at all
        RideTie y = Checks.planned("m101010;p9,9,9,99;p8,8,8,99;b2,2,2,2,5,99", 0, 0, 0, 0, 0, 0);
        cameIs(y, 0, 0, 0, RideTie.NONE, RideTie.NONE, RideTie.NONE);
        outcomeIs(y, 0, 27, 24, 3, 0, 0);
        // two beasts change riders at GATE 1
        RideTie z = Checks.planned("m1010;p9,9,9,99;p8,8,8,99;b2,2,2,1,5,99;b3,3,3,1,1,99", 1, 2, 2, 1);
        wentIs(z, 0, 0, 0, 4);
        wentIs(z, 0, 1, 0, 7);
        outcomeIs(z, 0, 9, 7, 0, 2, 2);
    }

    private static void limit() {
        thereIs(Checks.planned(ALL_ALONE + "99", 1, 1, 1), 0, 0, 0, 18, 36, 54);
        thereIs(Checks.planned(ALL_ALONE + "27", 1, 1, 1), 0, 0, 0, 18, 36, 54);
        thereIs(Checks.planned(ALL_ALONE + "26", 1, 1, 1), 0, 0, 0, 18, 36, 61);
        thereIs(Checks.planned(ALL_ALONE + "18", 1, 1, 1), 0, 0, 0, 18, 36, 61);
        thereIs(Checks.planned(ALL_ALONE + "17", 1, 1, 1), 0, 0, 0, 18, 43, 68);
        thereIs(Checks.planned(ALL_ALONE + "9", 1, 1, 1), 0, 0, 0, 18, 43, 68);
        RideTie x = Checks.planned(ALL_ALONE + "9", 1, 1, 1);
        cameIs(x, 0, 0, 0, 18, 43, 68);
        wentIs(x, 0, 0, 0, 25, 50);
        outcomeIs(x, 0, 68, 68, 0, 0, 0);
        // it stood at GATE 1 for another rider: from there on it went 18
        RideTie y = Checks.planned("m909090;p10,10,10,99;p20,20,20,99;b2,2,2,1,7,18", 1, 0, 0, 1, 0, 1);
        cameIs(y, 0, 0, 0, 18, 198, 216);
        // four PIECES: it stood at GATE 2, not at GATE 3
        RideTie z = Checks.planned("m90909090;p10,10,10,99;b2,2,2,1,7,18", 1, 1, 1, 1);
        cameIs(z, 0, 0, 0, 18, 36, 61, 79);
    }

    private static void lamePlans() {
        RideTie x = Checks.planned(Checks.TWO_AND_ONE, 1, 0, 0, 1);
        x.lame(0, 0, 1);
        thereIs(x, 0, 0, 0, 15, 215);
        outcomeIs(x, 0, 215, 69, 4, 1, 1);
        x.lame(0, 1, 0);
        thereIs(x, 0, 0, 0, 15, 115);
        thereIs(x, 0, 1, 0, 90, 114);
        x.lame(0, RideTie.NONE, 0);
        outcomeIs(x, 0, 115, 69, 4, 1, 1);
    }

    private static void alone() {
        // PERSON 1 walks as fast as the beast goes: the beast is not alone if it need not stand
        RideTie x = Checks.planned("m1010;p9,9,9,99;p2,2,2,99;b2,2,2,1,0,99", 1, 0, 0, 1);
        outcomeIs(x, 0, 11, 4, 1, 1, 0);
        RideTie y = Checks.planned("m1010;p9,9,9,99;p2,2,2,99;b2,2,2,1,1,99", 1, 0, 0, 1);
        outcomeIs(y, 0, 11, 5, 1, 1, 1);
    }

    private static void safeIs(RideTie x, int gone, long upper, long lower) {
        x.gone(gone);
        Checks.due("SAFE, GONE " + gone, x.safe(0, 0), upper);
        Checks.due("SAFE, GONE " + gone, x.safe(0, 1), lower);
    }

    private static void safe() {
        RideTie x = Checks.planned(Checks.TWO_AND_ONE, 1, 0, 0, 1);
        safeIs(x, 1, 11, 12);
        safeIs(x, 0, 1, 1);
        safeIs(x, 2, 5, 6);
        safeIs(x, 12, 0, 1);
        RideTie none = Checks.planned(Checks.TWO_AND_ONE, 0, 0, 0, 0);
        Checks.due("wrong", none.safe(0, 0), RideTie.LOST);
        RideTie still = Checks.planned("m10;p1,1,1,9", 0);
        safeIs(still, 12, 1, 1);
        String text = "m101010101010;p9,9,9,99;p8,8,8,99;b2,2,2,1,5,99;b3,3,3,1,1,99";
        RideTie many = Checks.planned(text, 1, 2, 2, 1, 1, 2, 2, 1, 1, 2, 2, 1);
        Checks.due("ALONE", many.outcome(0, 4), 10);
        safeIs(many, 1, 25937424601L, 61917364224L);
        safeIs(many, 6, 1, 1024);
        safeIs(many, 5, 282475249L, 61917364224L);
        safeIs(many, 12, 0, 1);
        Checks.due("which", many.safe(0, 2), RideTie.LOST);
        Checks.due("which", many.safe(0, -1), RideTie.LOST);
        Checks.due("plan", many.safe(1, 0), RideTie.LOST);
        Checks.due("plan", many.safe(-1, 0), RideTie.LOST);
    }

    private static void refusedQuestions() {
        RideTie x = Checks.planned(Checks.TWO_AND_ONE, 1, 0, 0, 1);
        int[] numbers = {-1, 3, Integer.MIN_VALUE, Integer.MAX_VALUE};
        for (int number : numbers) {
            Checks.due("there", x.there(number, 0, 0), RideTie.UNKNOWN);
            Checks.due("there", x.there(0, number, 0), RideTie.UNKNOWN);
            Checks.due("there", x.there(0, 0, number), RideTie.UNKNOWN);
            Checks.due("came", x.came(number, 0, 0), RideTie.UNKNOWN);
            Checks.due("came", x.came(0, number, 0), RideTie.UNKNOWN);
            Checks.due("came", x.came(0, 0, number), RideTie.UNKNOWN);
            Checks.due("went", x.went(number, 0, 0), RideTie.UNKNOWN);
            Checks.due("went", x.went(0, number, 0), RideTie.UNKNOWN);
            Checks.due("went", x.went(0, 0, number), RideTie.UNKNOWN);
            Checks.due("walked", x.walked(number, 0), RideTie.UNKNOWN);
            Checks.due("walked", x.walked(0, number), RideTie.UNKNOWN);
            Checks.due("outcome", x.outcome(number, 5), RideTie.UNKNOWN);
        }
        Checks.due("not the last gate", x.went(0, 0, 2), RideTie.UNKNOWN);
        Checks.due("the last gate", x.there(0, 0, 2), 115);
        Checks.due("a second beast", x.came(0, 1, 0), RideTie.UNKNOWN);
        Checks.due("a third person", x.walked(0, 2), RideTie.UNKNOWN);
        Checks.due("what", x.outcome(0, 5), RideTie.OUTSIDE);
        Checks.due("what", x.outcome(0, -1), RideTie.OUTSIDE);
    }

    private static void wrongPlansTellNothing() {
        RideTie x = Checks.planned(Checks.TWO_AND_ONE, 0, 0, 1, 0);
        Checks.due("there", x.there(0, 0, 0), RideTie.STATE);
        Checks.due("there", x.there(0, 0, 3), RideTie.UNKNOWN);
        Checks.due("came", x.came(0, 0, 0), RideTie.STATE);
        Checks.due("came", x.came(0, 1, 0), RideTie.UNKNOWN);
        Checks.due("went", x.went(0, 0, 0), RideTie.STATE);
        Checks.due("went", x.went(0, 0, 2), RideTie.UNKNOWN);
        Checks.due("outcome", x.outcome(0, 0), RideTie.STATE);
        Checks.due("outcome", x.outcome(0, 5), RideTie.OUTSIDE);
        Checks.due("walked", x.walked(0, 0), RideTie.STATE);
        Checks.due("walked", x.walked(0, 2), RideTie.UNKNOWN);
        Checks.due("safe", x.safe(0, 0), RideTie.LOST);
        Checks.due("does", x.does(0, 1, 0), 1);
        Checks.due("tell", x.tell(0), 1);
    }
}
