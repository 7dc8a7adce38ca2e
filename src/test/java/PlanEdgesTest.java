/** "2 PLANS" of the document, sentence by sentence: the last that is let in and the first that is not. */
public final class PlanEdgesTest {
    private static final int NONE = RideTie.NONE;
    private static final int STATE = RideTie.STATE;
    private static final int OUTSIDE = RideTie.OUTSIDE;
    private static final int UNKNOWN = RideTie.UNKNOWN;

    public static void main(String[] args) {
        tenEver();
        asManyCellsAsPiecesTimesPeople();
        cellsFromNothingToTheLastBeast();
        gatesOfMeetAndRest();
        minutesOfRest();
        gateAndMinutesElseNought();
        plansOfEachRoad();
        asMuchAsThereCanBe();
        allBeginAtMinuteNought();
        noStandingAtTheFirstGate();
        standsForOtherRiders();
        standsBeyondItsLimit();
        limitIsCountedSinceItStood();
        ridersWaitForAllAndForTheBeast();
        eachPairWaits();
        itStaysWhereItIsLeft();
        meetAtEachGate();
        meetOfFour();
        restAtItsEnds();
        aBeastStandsWhileTheyMeet();
        wrongOfEachPieceAndPerson();
        wrongByHolds();
        wrongByFar();
        theFirstWrongOnly();
        wrongIsNotLame();
        Checks.end();
    }

    private static void tenEver() {
        RideTie x = Checks.with("m10;p1,1,1,9;b1,1,1,1,0,9");
        for (int q = 0; q < 10; q++) {
            Checks.due("ofPlan of one to come", x.ofPlan(q, 0), UNKNOWN);
            Checks.due("refused, it takes no number", Checks.draw(x, 0, 0, 0, 0, 2), UNKNOWN);
            Checks.due("PLAN " + q, Checks.draw(x, 0, 0, 0, 0, q % 2), q);
            Checks.due("many(1)", x.many(1), q + 1);
        }
        Checks.due("an eleventh", Checks.draw(x, 0, 0, 0, 0, 1), RideTie.FULL);
        Checks.due("fault() behind FULL", x.fault(), 0);
        Checks.due("an eleventh again", Checks.draw(x, 0, 0, 0, 0, 0), RideTie.FULL);
        Checks.due("a BEAST ahead of FULL", Checks.draw(x, 0, 0, 0, 0, 2), UNKNOWN);
        Checks.due("n ahead of FULL", Checks.draw(x, 0, 0, 0, 0, 0, 0), OUTSIDE);
        Checks.due("SIZE ahead of FULL", x.plan(0, 0, 0, 0, 2, 2, 0, -1), -14);
        Checks.due("INDEX ahead of FULL", x.plan(0, 0, 0, 0, 2, 2, 2, 1), -13);
        Checks.due("CAST ahead of FULL", x.plan(0, 0, 0, 0, 2, 1, 0, 1), -12);
        Checks.due("NULL ahead of FULL", x.plan(0, 0, 0, 0, 3, 1, 0, 1), -11);
        Checks.due("kind ahead of FULL", x.plan(3, 0, 0, 0, 2, 2, 0, 1), OUTSIDE);
        Checks.due("ROAD ahead of FULL", x.plan(0, 1, 0, 0, 2, 2, 0, 1), UNKNOWN);
        Checks.due("many(1)", x.many(1), 10);
        Checks.due("PLAN 10", x.ofPlan(10, 0), UNKNOWN);
        for (int q = 0; q < 10; q++) {
            Checks.due("they are as they were", x.does(q, 0, 0), q % 2);
        }
    }

    private static String road(int pieces, int people, int beasts) {
        return "m" + "10".repeat(pieces) + ";p5,5,5,99".repeat(people) + ";b4,4,4,2,3,99".repeat(beasts);
    }

    private static void asManyCellsAsPiecesTimesPeople() {
        for (int pieces = 1; pieces <= 6; pieces++) {
            for (int people = 1; people <= 4; people++) {
                RideTie x = Checks.with(road(pieces, people, 0));
                int n = pieces * people;
                x.sheet(2, 2, 120);
                String name = n + " cells";
                for (int wrong : new int[] {0, 1, 4, 6, n - 1, n + 1, n + people, n + pieces, 24, 25, 120}) {
                    if (wrong != n) {
                        Checks.due(wrong + " of " + name, x.plan(0, 0, 0, 0, 2, 2, 0, wrong), OUTSIDE);
                        Checks.due("fault()", x.fault(), 0);
                    }
                }
                Checks.due(name, x.plan(0, 0, 0, 0, 2, 2, 0, n), 0);
                Checks.due(name + " at the end", x.plan(0, 0, 0, 0, 2, 2, 120 - n, n), 1);
                Checks.due(name + " beyond the end", x.plan(0, 0, 0, 0, 2, 2, 121 - n, n), -13);
                Checks.due("none at the end", x.plan(0, 0, 0, 0, 2, 2, 120, 0), OUTSIDE);
                Checks.due("none behind it", x.plan(0, 0, 0, 0, 2, 2, 121, 0), -13);
                Checks.due("does", x.does(1, pieces - 1, people - 1), 0);
            }
        }
    }

    private static void cellsFromNothingToTheLastBeast() {
        for (int beasts = 0; beasts <= 2; beasts++) {
            RideTie x = Checks.with(road(1, 1, beasts));
            for (int cell = 0; cell <= beasts; cell++) {
                Checks.due("cell " + cell, Checks.draw(x, 0, 0, 0, 0, cell), cell);
                Checks.due("does", x.does(cell, 0, 0), cell);
            }
            for (int cell : new int[] {beasts + 1, -1, 3, 256, 65536, Integer.MAX_VALUE, Integer.MIN_VALUE}) {
                Checks.due("cell " + cell, Checks.draw(x, 0, 0, 0, 0, cell), UNKNOWN);
                Checks.due("fault()", x.fault(), 0);
            }
            Checks.due("many(1)", x.many(1), beasts + 1);
        }
        // of all cells the last is looked at, too, and none behind n
        RideTie x = Checks.with(road(2, 2, 1));
        Checks.write(x, 3, 0, 0, 0, 0, 0, 2, 0, 0, 0, 1, 0, -1, 0, 0, 0);
        Checks.due("just ahead of a wrong one", x.plan(0, 0, 0, 0, 3, 0, 0, 4), 0);
        Checks.due("with it at the end", x.plan(0, 0, 0, 0, 3, 0, 1, 4), UNKNOWN);
        Checks.due("with it at the start", x.plan(0, 0, 0, 0, 3, 0, 4, 4), UNKNOWN);
        Checks.due("between both", x.plan(0, 0, 0, 0, 3, 0, 5, 4), 1);
        Checks.due("with the other at the end", x.plan(0, 0, 0, 0, 3, 0, 7, 4), UNKNOWN);
        Checks.due("does", x.does(1, 1, 1), 1);
    }

    private static void gatesOfMeetAndRest() {
        for (int pieces = 1; pieces <= 6; pieces++) {
            RideTie x = Checks.with(road(pieces, 1, 0));
            int[] cells = new int[pieces];
            int plans = 0;
            for (int kind = 1; kind <= 2; kind++) {
                int minutes = kind == 2 ? 60 : 0;
                for (int gate : new int[] {0, -1, pieces, pieces + 1, Integer.MAX_VALUE, Integer.MIN_VALUE}) {
                    Checks.due("GATE " + gate, Checks.draw(x, kind, 0, gate, minutes, cells), OUTSIDE);
                }
                for (int gate = 1; gate < pieces; gate++) {
                    Checks.due("GATE " + gate, Checks.draw(x, kind, 0, gate, minutes, cells), plans);
                    int[] told = {kind, 0, gate, minutes};
                    for (int what = 0; what < 4; what++) {
                        Checks.due("ofPlan", x.ofPlan(plans, what), told[what]);
                    }
                    plans++;
                }
            }
            Checks.due("many(1)", x.many(1), 2 * (pieces - 1));
        }
    }

    private static void minutesOfRest() {
        RideTie x = Checks.with(road(2, 1, 0));
        int[] told = {1, 2, 59, 60};
        for (int q = 0; q < 4; q++) {
            Checks.due("minutes " + told[q], Checks.draw(x, 2, 0, 1, told[q], 0, 0), q);
            Checks.due("ofPlan", x.ofPlan(q, 3), told[q]);
            Checks.due("there at the last GATE", x.there(q, 0, 2), 10 + told[q]);
        }
        for (int minutes : new int[] {0, -1, 61, 100, Integer.MAX_VALUE, Integer.MIN_VALUE}) {
            Checks.due("minutes " + minutes, Checks.draw(x, 2, 0, 1, minutes, 0, 0), OUTSIDE);
        }
        Checks.due("many(1)", x.many(1), 4);
    }

    private static void gateAndMinutesElseNought() {
        RideTie x = Checks.with(road(3, 1, 0));
        for (int gate : new int[] {1, 2, 3, -1}) {
            Checks.due("a PLAN with GATE " + gate, Checks.draw(x, 0, 0, gate, 0, 0, 0, 0), OUTSIDE);
        }
        for (int minutes : new int[] {1, 60, 61, -1}) {
            Checks.due("a PLAN with minutes " + minutes, Checks.draw(x, 0, 0, 0, minutes, 0, 0, 0), OUTSIDE);
            Checks.due("a MEET with minutes " + minutes, Checks.draw(x, 1, 0, 1, minutes, 0, 0, 0), OUTSIDE);
        }
        Checks.due("a PLAN", Checks.draw(x, 0, 0, 0, 0, 0, 0, 0), 0);
        Checks.due("a MEET", Checks.draw(x, 1, 0, 1, 0, 0, 0, 0), 1);
        for (int what = 2; what < 4; what++) {
            Checks.due("GATE and minutes of a PLAN", x.ofPlan(0, what), 0);
        }
        Checks.due("GATE of a MEET", x.ofPlan(1, 2), 1);
        Checks.due("minutes of a MEET", x.ofPlan(1, 3), 0);
    }

    private static void plansOfEachRoad() {
        RideTie x = Checks.with("m10;p5,5,5,9");
        Checks.read(x, "m1010;p5,5,5,9;p6,6,6,9;b2,2,2,1,0,9");
        Checks.read(x, "m101010;p7,7,7,9;b2,2,2,1,0,9;b3,3,3,1,0,9");
        Checks.due("of ROAD 2", Checks.draw(x, 0, 2, 0, 0, 2, 2, 2), 0);
        Checks.due("of ROAD 0", Checks.draw(x, 0, 0, 0, 0, 0), 1);
        Checks.due("of ROAD 1", Checks.draw(x, 1, 1, 1, 0, 0, 1, 0, 1), 2);
        Checks.due("a MEET of ROAD 0", Checks.draw(x, 1, 0, 1, 0, 0), OUTSIDE);
        Checks.due("BEAST 0 of ROAD 0", Checks.draw(x, 0, 0, 0, 0, 1), UNKNOWN);
        Checks.due("BEAST 1 of ROAD 1", Checks.draw(x, 0, 1, 0, 0, 0, 0, 0, 2), UNKNOWN);
        Checks.due("too few of ROAD 2", Checks.draw(x, 0, 2, 0, 0, 0), OUTSIDE);
        int[][] told = {{0, 2, 0, 0}, {0, 0, 0, 0}, {1, 1, 1, 0}};
        int[] last = {9, 5, 10};
        for (int q = 0; q < 3; q++) {
            for (int what = 0; what < 4; what++) {
                Checks.due("ofPlan", x.ofPlan(q, what), told[q][what]);
            }
            Checks.due("LAST", x.outcome(q, 0), last[q]);
        }
        Checks.due("PERSON 1 of ROAD 2", x.there(0, 1, 0), UNKNOWN);
        Checks.due("BEAST 1 of ROAD 2", x.came(0, 1, 3), 9);
        Checks.due("GATE 3 of ROAD 2", x.there(0, 0, 3), 9);
        Checks.due("GATE 2 of ROAD 0", x.there(1, 0, 2), UNKNOWN);
        Checks.due("BEAST 0 of ROAD 0", x.came(1, 0, 0), UNKNOWN);
        Checks.due("PIECE 1 of ROAD 0", x.does(1, 1, 0), UNKNOWN);
        // who is LAME on another ROAD is looked at by none of these
        x.lame(0, 0, 0);
        x.lame(1, 1, 0);
        Checks.due("LAST of ROAD 2", x.outcome(0, 0), 9);
        Checks.due("LAST of ROAD 0", x.outcome(1, 0), 10);
        Checks.due("LAST of ROAD 1", x.outcome(2, 0), 10);
    }

    private static void asMuchAsThereCanBe() {
        String person = ";p60,60,60,54";
        RideTie x = Checks.with("m909192909192" + person.repeat(4) + ";b60,60,60,2,30,99;b1,1,1,2,0,9");
        int[] cells = new int[24];
        Checks.due("all walk", Checks.draw(x, 0, 0, 0, 0, cells), 0);
        Checks.due("and rest", Checks.draw(x, 2, 0, 5, 60, cells), 1);
        for (int i = 0; i < 24; i++) {
            cells[i] = i % 4 / 2 + 1;
        }
        Checks.due("all ride", Checks.draw(x, 0, 0, 0, 0, cells), 2);
        x.lame(0, 3, 0);
        outcomeIs(x, 0, 6480, 3240, 54, 0, 0);
        outcomeIs(x, 1, 540 * 2 * 5 + 60 + 1080, 540 * 2 * 5 + 60 + 540, 54, 0, 0);
        // the LIMIT of 99 is never come to; that of 9 is, at each GATE
        outcomeIs(x, 2, 3240, 54, 0, 0, 0);
        for (int k = 0; k < 6; k++) {
            for (int p = 0; p < 4; p++) {
                Checks.due("does", x.does(0, k, p), 0);
                Checks.due("does", x.does(2, k, p), p / 2 + 1);
                Checks.due("went", x.went(0, p, k), 540 * k * (p == 3 ? 2 : 1));
            }
        }
        Checks.due("tell", x.tell(2), 24);
        Checks.due("tell", x.tell(1), 100);
        for (int p = 0; p < 4; p++) {
            Checks.due("walked", x.walked(0, p), 54);
            Checks.due("walked", x.walked(2, p), 0);
            Checks.due("there at the last GATE", x.there(2, p, 6), p < 2 ? 3240 : 54);
        }
        for (int gate = 0; gate <= 6; gate++) {
            Checks.due("came", x.came(2, 0, gate), 540 * gate);
            Checks.due("came", x.came(2, 1, gate), 9 * gate);
            Checks.due("came", x.came(0, 1, gate), gate == 0 ? 0 : NONE);
        }
    }

    private static void outcomeIs(RideTie x, int q, int... numbers) {
        for (int what = 0; what < numbers.length; what++) {
            Checks.due("outcome(" + q + ", " + what + ")", x.outcome(q, what), numbers[what]);
        }
    }

    private static void allBeginAtMinuteNought() {
        RideTie x = Checks.planned("m1010;p9,9,9,99;p8,8,8,99;b2,2,2,1,5,99;b3,3,3,1,30,99", 0, 2, 0, 0);
        for (int p = 0; p < 2; p++) {
            Checks.due("there at GATE 0", x.there(0, p, 0), 0);
            Checks.due("went from GATE 0", x.went(0, p, 0), 0);
        }
        Checks.due("a BEAST that is left", x.came(0, 0, 0), 0);
        Checks.due("it did not come", x.came(0, 0, 1), NONE);
        Checks.due("it did not come", x.came(0, 0, 2), NONE);
        Checks.due("a BEAST that is ridden", x.came(0, 1, 0), 0);
        Checks.due("it came", x.came(0, 1, 1), 3);
        Checks.due("it was left there", x.came(0, 1, 2), NONE);
    }

    private static void noStandingAtTheFirstGate() {
        RideTie x = Checks.planned("m9090;p9,9,9,99;p8,8,8,99;b2,2,2,2,30,9", 1, 1, 1, 1);
        Checks.due("went from GATE 0", x.went(0, 0, 0), 0);
        Checks.due("came to GATE 1", x.came(0, 0, 1), 18);
        Checks.due("it stands there: 18 miles are more than 9", x.went(0, 1, 1), 48);
        RideTie y = Checks.planned("m90;p9,9,9,99;b2,2,2,1,30,9", 1);
        Checks.due("went from GATE 0", y.went(0, 0, 0), 0);
        Checks.due("there", y.there(0, 0, 1), 18);
    }

    /** By three PEOPLE on a BEAST that holds two, and STANDS 7: the minute of going on from GATE 1. */
    private static void goesOn(int first, int second, boolean stands) {
        int[] cells = new int[6];
        for (int p = 0; p < 3; p++) {
            cells[p] = first >> p & 1;
            cells[3 + p] = second >> p & 1;
        }
        RideTie x = Checks.planned("m1010;p1,1,1,99;p1,1,1,99;p1,1,1,99;b5,5,5,2,7,99", cells);
        String name = "riders " + first + ", then " + second;
        for (int p = 0; p < 3; p++) {
            if ((second >> p & 1) != 0) {
                Checks.due(name, x.went(0, p, 1), stands ? 12 : 5);
                Checks.due(name, x.there(0, p, 2), stands ? 17 : 10);
            }
        }
        Checks.due(name, x.came(0, 0, 2), second == 0 ? NONE : stands ? 17 : 10);
        Checks.due(name + ": TIES", x.outcome(0, 3), first == second ? 0 : 1);
        Checks.due(name + ": ALONE", x.outcome(0, 4), first == second || second == 0 ? 0 : 1);
    }

    private static void standsForOtherRiders() {
        int[] sets = {1, 2, 4, 3, 5, 6};
        for (int first : sets) {
            goesOn(first, 0, false);
            for (int second : sets) {
                goesOn(first, second, first != second);
            }
        }
    }

    private static void standsBeyondItsLimit() {
        for (int limit = 9; limit <= 20; limit++) {
            RideTie x = Checks.planned("m6040;p9,9,9,99;b2,2,2,1,7," + limit, 1, 1);
            Checks.due("LIMIT " + limit, x.went(0, 0, 1), limit < 10 ? 19 : 12);
            RideTie y = Checks.planned("m909010;p9,9,9,99;b2,2,2,1,7," + limit, 1, 1, 1);
            Checks.due("LIMIT " + limit, y.went(0, 0, 1), limit < 18 ? 25 : 18);
            int second = limit < 10 ? 50 : limit < 18 ? 43 : limit < 19 ? 43 : 36;
            Checks.due("LIMIT " + limit, y.went(0, 0, 2), second);
            outcomeIs(y, 0, second + 2, second + 2, 0, 0, 0);
        }
        // 54 MILES are within 54 .. 99
        RideTie z = Checks.planned("m909090909090;p9,9,9,99;b2,2,2,1,7,54", 1, 1, 1, 1, 1, 1);
        Checks.due("just so many", z.there(0, 0, 6), 108);
        z = Checks.planned("m909090909090;p9,9,9,99;b2,2,2,1,7,53", 1, 1, 1, 1, 1, 1);
        Checks.due("one too many", z.there(0, 0, 6), 115);
        Checks.due("at the last GATE but one", z.went(0, 0, 5), 97);
        Checks.due("not ahead of it", z.went(0, 0, 4), 72);
    }

    private static void limitIsCountedSinceItStood() {
        // it stands 0 minutes for another rider at GATE 1, and counts from there on
        RideTie x = Checks.planned("m505050;p1,1,1,99;p1,1,1,99;b2,2,2,1,0,10", 1, 0, 0, 1, 0, 1);
        Checks.due("there", x.there(0, 1, 3), 30);
        RideTie y = Checks.planned("m505050;p1,1,1,99;p1,1,1,99;b2,2,2,1,7,10", 1, 0, 0, 1, 0, 1);
        Checks.due("went from GATE 1", y.went(0, 1, 1), 17);
        Checks.due("went from GATE 2", y.went(0, 1, 2), 27);
        Checks.due("there", y.there(0, 1, 3), 37);
        // both reasons at one GATE: it stands once
        RideTie z = Checks.planned("m5060;p1,1,1,99;p1,1,1,99;b2,2,2,1,7,10", 1, 0, 0, 1);
        Checks.due("went from GATE 1", z.went(0, 1, 1), 17);
        // what it went ahead of the standing for its LIMIT counts no more
        RideTie v = Checks.planned("m90205050;p1,1,1,99;b2,2,2,1,7,11", 1, 1, 1, 1);
        int[] went = {0, 18, 29, 39};
        Checks.due("11 of 11", v.went(0, 0, 1), went[1]);
        Checks.due("16 of 11", v.went(0, 0, 2), went[2]);
        Checks.due("10 of 11", v.went(0, 0, 3), went[3]);
        RideTie w = Checks.planned("m90205070;p1,1,1,99;b2,2,2,1,7,11", 1, 1, 1, 1);
        Checks.due("12 of 11", w.went(0, 0, 3), went[3] + 7);
    }

    private static void ridersWaitForAllAndForTheBeast() {
        // PERSON 0 is there at 5, the BEAST is ready at 4, 5, 6
        for (int stands = 0; stands <= 4; stands++) {
            RideTie x = Checks.planned("m1010;p5,5,5,99;p9,9,9,99;b2,2,2,1," + stands + ",99", 0, 1, 1, 0);
            Checks.due("STANDS " + stands, x.went(0, 0, 1), Math.max(5, 2 + stands));
            Checks.due("STANDS " + stands, x.came(0, 0, 2), Math.max(5, 2 + stands) + 2);
            outcomeIs(x, 0, 11, Math.max(5, 2 + stands) + 2, 1, 1, 1);
        }
        // who rides on with the one who came waits for the other as well
        RideTie y = Checks.planned("m1010;p5,5,5,99;p9,9,9,99;b2,2,2,2,1,99", 0, 1, 1, 1);
        Checks.due("PERSON 0", y.went(0, 0, 1), 5);
        Checks.due("PERSON 1", y.went(0, 1, 1), 5);
        Checks.due("PERSON 1 was there", y.there(0, 1, 1), 2);
        // the BEAST came just as its rider does: not later than it had come
        RideTie z = Checks.planned("m1010;p5,5,5,99;p9,9,9,99;b5,5,5,1,0,99", 0, 1, 1, 0);
        outcomeIs(z, 0, 14, 10, 1, 1, 0);
        RideTie v = Checks.planned("m1010;p6,6,6,99;p9,9,9,99;b5,5,5,1,0,99", 0, 1, 1, 0);
        outcomeIs(v, 0, 14, 11, 1, 1, 1);
        RideTie w = Checks.planned("m1010;p4,4,4,99;p9,9,9,99;b5,5,5,1,0,99", 0, 1, 1, 0);
        outcomeIs(w, 0, 14, 10, 1, 1, 0);
    }

    /** Whoever of four it is who comes last, the other rider waits. */
    private static void eachPairWaits() {
        for (int late = 0; late < 4; late++) {
            for (int other = 0; other < 4; other++) {
                if (late == other) {
                    continue;
                }
                StringBuilder text = new StringBuilder("m1010");
                for (int p = 0; p < 4; p++) {
                    text.append(p == late ? ";p50,1,1,99" : ";p5,1,1,99");
                }
                int[] cells = new int[8];
                cells[other] = 1;
                cells[4 + late] = 1;
                cells[4 + other] = 1;
                RideTie x = Checks.planned(text + ";b2,2,2,2,9,99", cells);
                for (int p = 0; p < 4; p++) {
                    boolean rides = p == late || p == other;
                    Checks.due("went", x.went(0, p, 1), rides ? 50 : 5);
                    Checks.due("there", x.there(0, p, 1), p == late ? 50 : p == other ? 2 : 5);
                    Checks.due("there", x.there(0, p, 2), rides ? 52 : 10);
                }
                Checks.due("came", x.came(0, 0, 2), 52);
            }
        }
    }

    private static void itStaysWhereItIsLeft() {
        String text = "m101010;p5,5,5,99;p5,5,5,99;b2,2,2,2,1,99";
        int[][] cells = {{0, 0, 0, 0, 0, 0}, {1, 0, 0, 0, 0, 0}, {1, 0, 0, 1, 0, 0}, {1, 0, 0, 1, 1, 0}};
        int[][] came = {{0, NONE, NONE, NONE}, {0, 2, NONE, NONE}, {0, 2, 7, NONE}, {0, 2, 7, 10}};
        int[] ties = {0, 1, 2, 2};
        for (int i = 0; i < 4; i++) {
            RideTie x = Checks.planned(text, cells[i]);
            for (int gate = 0; gate <= 3; gate++) {
                Checks.due("came, PLAN by " + i, x.came(0, 0, gate), came[i][gate]);
            }
            Checks.due("TIES", x.outcome(0, 3), ties[i]);
        }
        int[][] wrong = {{0, 0, 1, 0, 0, 0}, {0, 0, 0, 1, 0, 0}, {0, 0, 0, 0, 1, 0}, {1, 0, 0, 0, 1, 1}, {1, 1, 0, 0, 0, 1}};
        int[] due = {101, 111, 201, 201, 211};
        for (int i = 0; i < due.length; i++) {
            Checks.due("wrong by " + i, Checks.planned(text, wrong[i]).wrong(0), due[i]);
        }
    }

    private static void meetAtEachGate() {
        RideTie x = Checks.with("m101010;p5,5,5,99;p8,8,8,99;p2,2,2,99;b1,1,1,1,0,99");
        int[] cells = {0, 0, 1, 0, 0, 1, 0, 0, 1};
        Checks.draw(x, 1, 0, 1, 0, cells);
        Checks.draw(x, 1, 0, 2, 0, cells);
        int[][][] there = {{{0, 8, 13, 18}, {0, 8, 16, 24}, {0, 8, 9, 10}}, {{0, 5, 16, 21}, {0, 8, 16, 24}, {0, 1, 16, 17}}};
        int[][] came = {{0, 1, 9, 10}, {0, 1, 2, 17}};
        for (int q = 0; q < 2; q++) {
            for (int gate = 0; gate <= 3; gate++) {
                for (int p = 0; p < 3; p++) {
                    Checks.due("there(" + q + ", " + p + ", " + gate + ")", x.there(q, p, gate), there[q][p][gate]);
                    if (gate < 3) {
                        Checks.due("went(" + q + ", " + p + ", " + gate + ")", x.went(q, p, gate), there[q][p][gate]);
                    }
                }
                Checks.due("came(" + q + ", " + gate + ")", x.came(q, 0, gate), came[q][gate]);
            }
        }
    }

    /** All of four, as the last of them is, and nobody ahead of it. */
    private static void meetOfFour() {
        for (int last = 0; last < 4; last++) {
            RideTie x = new RideTie();
            String text = "m101010" + ";p5,1,1,99".repeat(last) + ";p9,1,1,99" + ";p5,1,1,99".repeat(3 - last);
            Checks.due("road", Checks.read(x, text), 0);
            Checks.due("MEET", Checks.draw(x, 1, 0, 2, 0, new int[12]), 0);
            Checks.due("REST", Checks.draw(x, 2, 0, 2, 7, new int[12]), 1);
            for (int q = 0; q < 2; q++) {
                for (int p = 0; p < 4; p++) {
                    int pace = p == last ? 9 : 5;
                    int met = 18 + 7 * q;
                    int[] there = {0, pace, met, met + pace};
                    for (int gate = 0; gate < 4; gate++) {
                        Checks.due("there(" + q + ", " + p + ", " + gate + ")", x.there(q, p, gate), there[gate]);
                    }
                }
            }
        }
    }

    private static void restAtItsEnds() {
        // one alone meets at once, but rests
        RideTie x = Checks.with("m1010;p5,5,5,99;b2,2,2,1,30,99");
        Checks.draw(x, 1, 0, 1, 0, 0, 0);
        Checks.draw(x, 2, 0, 1, 1, 0, 0);
        Checks.draw(x, 2, 0, 1, 60, 1, 1);
        int[] there = {5, 6, 62};
        for (int q = 0; q < 3; q++) {
            Checks.due("there at GATE 1", x.there(q, 0, 1), there[q]);
            Checks.due("went from GATE 1", x.went(q, 0, 1), there[q]);
            Checks.due("there at GATE 2", x.there(q, 0, 2), there[q] + (q == 2 ? 2 : 5));
        }
        Checks.due("the BEAST came as it did", x.came(2, 0, 1), 2);
        outcomeIs(x, 2, 64, 64, 0, 0, 0);
    }

    private static void aBeastStandsWhileTheyMeet() {
        // the BEAST came at 2 and is ready at 32; they meet at 5, and rest to 6, 31, 32, 33
        RideTie x = Checks.with("m1010;p5,5,5,99;p4,4,4,99;b2,2,2,1,30,99");
        int[] minutes = {1, 26, 27, 28};
        Checks.draw(x, 1, 0, 1, 0, 0, 1, 1, 0);
        for (int q = 0; q < 4; q++) {
            Checks.draw(x, 2, 0, 1, minutes[q], 0, 1, 1, 0);
        }
        int[] there = {5, 6, 31, 32, 33};
        for (int q = 0; q < 5; q++) {
            Checks.due("there at GATE 1", x.there(q, 1, 1), there[q]);
            Checks.due("went from GATE 1 on foot", x.went(q, 1, 1), there[q]);
            Checks.due("went from GATE 1 on the BEAST", x.went(q, 0, 1), Math.max(32, there[q]));
            Checks.due("came to GATE 2", x.came(q, 0, 2), Math.max(32, there[q]) + 2);
            Checks.due("ALONE", x.outcome(q, 4), 1);
        }
        // with the same rider it is ready as it came, and not alone, however long they rest
        RideTie y = Checks.with("m1010;p5,5,5,99;p4,4,4,99;b2,2,2,1,30,99");
        Checks.draw(y, 2, 0, 1, 60, 1, 0, 1, 0);
        Checks.due("went", y.went(0, 0, 1), 64);
        outcomeIs(y, 0, 68, 66, 2, 0, 0);
        // the last to come is who rides on it: a MEET makes the other rider wait
        RideTie z = Checks.with("m1010;p5,5,5,99;p4,4,4,99;b2,2,2,1,0,99");
        Checks.draw(z, 1, 0, 1, 0, 1, 0, 0, 1);
        Checks.draw(z, 0, 0, 0, 0, 1, 0, 0, 1);
        outcomeIs(z, 0, 9, 6, 1, 1, 1);
        outcomeIs(z, 1, 7, 6, 1, 1, 1);
    }

    private static void wrongOfEachPieceAndPerson() {
        // all walk all the way but one, who would ride what is left behind, or walks too far
        for (int k = 1; k < 6; k++) {
            for (int p = 0; p < 4; p++) {
                int[] cells = new int[24];
                cells[4 * k + p] = 1;
                Checks.due("left behind", Checks.planned(road(6, 4, 1), cells).wrong(0), 100 * k + 10 * p + 1);
                cells[4 * k + p] = 2;
                Checks.due("left behind", Checks.planned(road(6, 4, 2), cells).wrong(0), 100 * k + 10 * p + 1);
            }
        }
        for (int far = 0; far < 6; far++) {
            for (int p = 0; p < 4; p++) {
                String text = "m" + "10".repeat(6) + ";p5,5,5,99".repeat(p) + ";p5,5,5," + far + ";p5,5,5,99".repeat(3 - p);
                Checks.due("too far", Checks.planned(text, new int[24]).wrong(0), 100 * far + 10 * p + 3);
            }
        }
        Checks.due("not too far", Checks.planned("m101010101010;p5,5,5,6", new int[6]).wrong(0), NONE);
        RideTie x = Checks.with(road(2, 2, 1));
        Checks.draw(x, 1, 0, 1, 0, 0, 0, 0, 1);
        Checks.draw(x, 2, 0, 1, 60, 0, 0, 1, 0);
        Checks.due("a MEET", x.wrong(0), 111);
        Checks.due("a REST", x.wrong(1), 101);
        Checks.due("there", x.there(1, 0, 1), STATE);
    }

    private static void wrongByHolds() {
        for (int holds = 1; holds <= 2; holds++) {
            String text = "m1010" + ";p5,5,5,99".repeat(4) + ";b4,4,4," + holds + ",3,99;b4,4,4,2,3,99";
            for (int set = 0; set < 16; set++) {
                int[] cells = new int[8];
                int due = NONE;
                for (int p = 0, riders = 0; p < 4; p++) {
                    cells[p] = set >> p & 1;
                    riders += cells[p];
                    due = due == NONE && riders > holds ? 10 * p + 2 : due;
                }
                Checks.due("HOLDS " + holds + ", riders " + set, Checks.planned(text, cells).wrong(0), due);
            }
        }
        // each BEAST by itself, and each PIECE anew
        String text = "m1010" + ";p5,5,5,99".repeat(4) + ";b4,4,4,2,3,99;b4,4,4,2,3,99";
        Checks.due("four on two", Checks.planned(text, 1, 2, 2, 1, 2, 2, 1, 1).wrong(0), NONE);
        Checks.due("three on BEAST 1", Checks.planned(text, 2, 1, 2, 2, 0, 0, 0, 0).wrong(0), 32);
        Checks.due("three on BEAST 0, PIECE 1", Checks.planned(text, 1, 1, 0, 0, 1, 0, 1, 1).wrong(0), 132);
    }

    private static void wrongByFar() {
        for (int far = 8; far <= 10; far++) {
            String text = "m5040;p5,5,5," + far + ";b4,4,4,1,3,99";
            Checks.due("FAR " + far, Checks.planned(text, 0, 0).wrong(0), far < 9 ? 103 : NONE);
            Checks.due("FAR " + far + ", riding", Checks.planned(text, 1, 0).wrong(0), NONE);
        }
        String text = "m5040;p5,5,5,0;b4,4,4,1,3,99";
        Checks.due("FAR 0, riding", Checks.planned(text, 1, 1).wrong(0), NONE);
        Checks.due("FAR 0", Checks.planned(text, 1, 0).wrong(0), 103);
        Checks.due("FAR 0", Checks.planned(text, 0, 0).wrong(0), 3);
        Checks.due("54 of 54", Checks.planned("m909090909090;p5,5,5,54", new int[6]).wrong(0), NONE);
        Checks.due("54 of 53", Checks.planned("m909090909090;p5,5,5,53", new int[6]).wrong(0), 503);
        Checks.due("99", Checks.planned("m909090909090;p5,5,5,99", new int[6]).wrong(0), NONE);
    }

    private static void theFirstWrongOnly() {
        String text = "m1020;p5,5,5,0;p5,5,5,1;p5,5,5,9;b4,4,4,1,3,99";
        Checks.due("by PIECES first", Checks.planned(text, 1, 0, 0, 1, 0, 1).wrong(0), 113);
        Checks.due("PERSON 0 ahead of PERSON 2", Checks.planned(text, 0, 1, 1, 0, 0, 0).wrong(0), 3);
        Checks.due("PERSON 2 on PIECE 0 ahead of PERSON 0 on PIECE 1", Checks.planned(text, 1, 0, 1, 0, 0, 0).wrong(0), 22);
        Checks.due("PERSON 0 on PIECE 1", Checks.planned(text, 1, 0, 0, 0, 0, 0).wrong(0), 103);
        Checks.due("left behind, not too many", Checks.planned("m1020;p5,5,5,9;p5,5,5,9;p5,5,5,9;b4,4,4,1,3,99",
            0, 0, 0, 0, 1, 1).wrong(0), 111);
    }

    private static void wrongIsNotLame() {
        RideTie x = Checks.planned("m5040;p5,5,5,9;b4,4,4,1,3,99", 0, 0);
        x.lame(0, 0, 0);
        Checks.due("LAME walks as far", x.wrong(0), NONE);
        outcomeIs(x, 0, 90, 90, 9, 0, 0);
        Checks.due("walked", x.walked(0, 0), 9);
    }
}
