/** "3 BEST" of the document, sentence by sentence. */
public final class BestEdgesTest {
    private static final int NONE = RideTie.NONE;

    public static void main(String[] args) {
        rowsUpTo65536();
        refusalsAheadOfState();
        tiesFromNoughtToTwelve();
        moreTiesAreNotLetIn();
        noneOfThem();
        onlyRowsOfPlans();
        eachAimByItself();
        ofSeveralTheLeastLast();
        ofSeveralTheFirstRow();
        theFirstRowWithMoreTies();
        costOfFairness();
        fewestTies();
        asLameAsItIsNow();
        eachChangeOfWhoIsLame();
        eachRoadByItself();
        Checks.end();
    }

    private static String road(int pieces, int people, int beasts) {
        return "m" + "10".repeat(pieces) + ";p5,5,5,99".repeat(people) + ";b4,4,4,1,0,99".repeat(beasts);
    }

    /** BEASTS and 1, to PEOPLE times PIECES. */
    private static void rowsUpTo65536() {
        int few = 0;
        for (int pieces = 1; pieces <= 6; pieces++) {
            for (int people = 1; people <= 4; people++) {
                for (int beasts = 0; beasts <= 2; beasts++) {
                    boolean isMany = Math.pow(beasts + 1, pieces * people) > 65536;
                    few += isMany ? 0 : 1;
                    RideTie x = Checks.with(road(pieces, people, beasts));
                    String name = pieces + " PIECES, " + people + " PEOPLE, " + beasts + " BEASTS";
                    stateIs("rows of " + name, x.rows(0), isMany);
                    stateIs("best of " + name, x.best(0, 0, NONE, 0), isMany);
                    stateIs("best of " + name, x.best(0, 2, 12, 3), isMany);
                    stateIs("row of " + name, x.row(0, 1, 0, pieces - 1, people - 1), isMany);
                    stateIs("cost of " + name, x.cost(0), isMany);
                    stateIs("fewest of " + name, x.fewest(0), isMany);
                    x.lame(0, 0, 0);
                    stateIs("rows of " + name, x.rows(0), isMany);
                }
            }
        }
        Checks.due("so many of 72 have few rows", few, 24 + 21 + 16);
        Checks.due("of 65536 rows", Checks.with(road(4, 4, 1)).best(0, 2, NONE, 0), 19);
        Checks.due("of 59049 rows", Checks.with(road(5, 2, 2)).best(0, 2, NONE, 2), 0);
    }

    private static void stateIs(String name, int answer, boolean isMany) {
        Checks.hold(name + " answered " + answer, isMany ? answer == RideTie.STATE : answer >= 0);
    }

    private static void refusalsAheadOfState() {
        RideTie x = Checks.with(road(6, 4, 2));
        x.put(0, 0, 0);
        Checks.due("ROAD", x.best(1, 3, 13, 4), RideTie.UNKNOWN);
        Checks.due("AIM", x.best(0, 3, NONE, 0), RideTie.OUTSIDE);
        Checks.due("AIM", x.best(0, -1, NONE, 0), RideTie.OUTSIDE);
        Checks.due("t", x.best(0, 0, 13, 0), RideTie.OUTSIDE);
        Checks.due("t", x.best(0, 0, -1, 0), RideTie.OUTSIDE);
        Checks.due("what", x.best(0, 0, NONE, 4), RideTie.OUTSIDE);
        Checks.due("what", x.best(0, 0, NONE, -1), RideTie.OUTSIDE);
        Checks.due("PIECE", x.row(0, 3, 13, 6, 0), RideTie.UNKNOWN);
        Checks.due("PERSON", x.row(0, 3, 13, 0, 4), RideTie.UNKNOWN);
        Checks.due("AIM", x.row(0, 3, NONE, 5, 3), RideTie.OUTSIDE);
        Checks.due("t", x.row(0, 0, 13, 5, 3), RideTie.OUTSIDE);
        Checks.due("there are more rows", x.row(0, 0, 12, 5, 3), RideTie.STATE);
        Checks.due("there are more rows", x.best(0, 0, 12, 3), RideTie.STATE);
        Checks.due("fault() is as it was", x.fault(), 1);
        Checks.due("PLANS are told all the same", Checks.draw(x, 0, 0, 0, 0, new int[24]), 0);
        Checks.due("LAST", x.outcome(0, 0), 30);
        Checks.due("EVEN", x.even(0, 0), 27);
    }

    private static void tiesFromNoughtToTwelve() {
        RideTie x = Checks.with("m1010;p30,30,30,99;p40,40,40,99;b10,10,10,1,0,99");
        for (int t = 0; t <= 12; t++) {
            Checks.due("LAST with " + t, x.best(0, 0, t, 0), t == 0 ? 60 : 50);
            Checks.due("TIES with " + t, x.best(0, 0, t, 3), t == 0 ? 0 : 1);
            Checks.due("row with " + t, x.row(0, 0, t, 1, 0), t == 0 ? 0 : 1);
        }
        Checks.due("LAST with any", x.best(0, 0, NONE, 0), 50);
        for (int t : new int[] {-1, -2, -3, -4, -8, -10, 13, 14, 100}) {
            Checks.due("t " + t, x.best(0, 0, t, 0), RideTie.OUTSIDE);
            Checks.due("t " + t, x.row(0, 0, t, 0, 0), RideTie.OUTSIDE);
        }
    }

    /** Two who are too weak to walk two PIECES on end, but for the BEAST: so many PIECES, so many ties. */
    private static void moreTiesAreNotLetIn() {
        for (int pieces = 2; pieces <= 6; pieces++) {
            StringBuilder text = new StringBuilder("m");
            for (int k = 0; k < pieces; k++) {
                text.append(1).append(k % 2);
            }
            // on GROUND 0 PERSON 0 is slow, on GROUND 1 PERSON 1 is
            text.append(";p60,1,1,99;p1,60,1,99;b1,1,1,1,0,99");
            RideTie x = Checks.with(text.toString());
            for (int t = 0; t < pieces - 1; t++) {
                Checks.hold("with " + t + " somebody slow walks", x.best(0, 0, t, 0) > pieces);
                Checks.hold("no more ties", x.best(0, 0, t, 3) <= t);
            }
            for (int t = pieces - 1; t <= 12; t++) {
                Checks.due("LAST with " + t, x.best(0, 0, t, 0), pieces);
                Checks.due("TIES with " + t, x.best(0, 0, t, 3), pieces - 1);
            }
            Checks.due("LAST with any", x.best(0, 0, NONE, 0), pieces);
            Checks.due("FEWEST", x.fewest(0), pieces - 1);
            for (int k = 0; k < pieces; k++) {
                Checks.due("row", x.row(0, 0, NONE, k, 0), 1 - k % 2);
                Checks.due("row", x.row(0, 0, NONE, k, 1), k % 2);
            }
        }
    }

    private static void noneOfThem() {
        RideTie x = Checks.with("m9090;p5,5,5,17");
        noneIs(x, NONE);
        for (int t = 0; t <= 12; t++) {
            noneIs(x, t);
        }
        Checks.due("rows", x.rows(0), 0);
        Checks.due("cost", x.cost(0), NONE);
        Checks.due("fewest", x.fewest(0), NONE);
        Checks.due("refused ahead of that", x.row(0, 0, NONE, 2, 0), RideTie.UNKNOWN);
        Checks.due("refused ahead of that", x.best(0, 0, NONE, 4), RideTie.OUTSIDE);
        // the last mile that one can walk, and the first that it can't
        Checks.due("rows", Checks.with("m9090;p5,5,5,18").rows(0), 1);
        Checks.due("rows", Checks.with("m10;p5,5,5,0").rows(0), 0);
        Checks.due("rows", Checks.with("m10;p5,5,5,0;b5,5,5,1,0,9").rows(0), 1);
        // with as many ties as there must be there is one, with one less there is none
        RideTie y = Checks.with("m101010;p5,5,5,1;p5,5,5,2;b5,5,5,1,0,99");
        noneIs(y, 0);
        Checks.due("LAST with 1", y.best(0, 0, 1, 0), 15);
        Checks.due("rows", y.rows(0), 3);
        Checks.due("fewest", y.fewest(0), 1);
        Checks.due("cost", y.cost(0), 0);
    }

    private static void noneIs(RideTie x, int t) {
        for (int aim = 0; aim < 3; aim++) {
            for (int what = 0; what < 4; what++) {
                Checks.due("best with " + t, x.best(0, aim, t, what), NONE);
            }
            Checks.due("row with " + t, x.row(0, aim, t, 0, 0), NONE);
        }
    }

    private static void onlyRowsOfPlans() {
        // PLANS that were told, of whatever kind, are not looked at
        RideTie x = Checks.with("m1010;p30,30,30,99;p40,40,40,99;b10,10,10,1,0,99");
        Checks.draw(x, 2, 0, 1, 60, 0, 0, 0, 0);
        Checks.draw(x, 1, 0, 1, 0, 1, 0, 0, 1);
        Checks.due("LAST", x.best(0, 0, NONE, 0), 50);
        Checks.due("FIRST", x.best(0, 1, NONE, 1), 20);
        Checks.due("rows", x.rows(0), 7);
    }

    private static void eachAimByItself() {
        RideTie x = Checks.with("m102020;p10,1,1,99;p20,1,1,99;b5,1,1,1,0,99");
        numbersAre(x, 0, 45, 40, 4, 1);
        numbersAre(x, 1, 50, 25, 5, 0);
        numbersAre(x, 2, 55, 40, 3, 1);
        int[][] rows = {{1, 0, 0, 1, 0, 1}, {0, 1, 0, 1, 0, 1}, {0, 1, 0, 1, 1, 0}};
        for (int aim = 0; aim < 3; aim++) {
            for (int i = 0; i < 6; i++) {
                Checks.due("row by AIM " + aim, x.row(0, aim, NONE, i / 2, i % 2), rows[aim][i]);
            }
        }
        Checks.due("cost", x.cost(0), 10);
    }

    private static void numbersAre(RideTie x, int aim, int... numbers) {
        for (int what = 0; what < 4; what++) {
            Checks.due("best by AIM " + aim + ", what " + what, x.best(0, aim, NONE, what), numbers[what]);
        }
    }

    private static void ofSeveralTheLeastLast() {
        // by AIM 1 whoever rides is there at 10; by AIM 2 whoever walks walks a mile
        RideTie x = Checks.with("m10;p30,1,1,99;p40,1,1,99;p35,1,1,99;b10,1,1,2,0,99");
        numbersAre(x, 1, 30, 10, 1, 0);
        numbersAre(x, 2, 30, 10, 1, 0);
        int[] row = {0, 1, 1};
        for (int p = 0; p < 3; p++) {
            Checks.due("row by AIM 1", x.row(0, 1, NONE, 0, p), row[p]);
            Checks.due("row by AIM 2", x.row(0, 2, NONE, 0, p), row[p]);
        }
    }

    private static void ofSeveralTheFirstRow() {
        // by PIECES, then by PEOPLE: a lesser number at the first place where two rows are not alike
        RideTie x = Checks.with("m1010;p5,5,5,99;p5,5,5,99;b5,5,5,2,0,99;b5,5,5,2,0,99");
        for (int i = 0; i < 4; i++) {
            Checks.due("all walk", x.row(0, 0, NONE, i / 2, i % 2), 0);
            Checks.due("all walk", x.row(0, 1, NONE, i / 2, i % 2), 0);
            Checks.due("all ride BEAST 0", x.row(0, 2, NONE, i / 2, i % 2), 1);
        }
        RideTie y = Checks.with("m1010;p5,5,5,99;p5,5,5,99;b5,5,5,1,0,99;b5,5,5,1,0,99");
        int[] row = {1, 2, 1, 2};
        for (int i = 0; i < 4; i++) {
            Checks.due("each rides", y.row(0, 2, NONE, i / 2, i % 2), row[i]);
        }
        Checks.due("without a tie", y.best(0, 2, NONE, 3), 0);
        // the PERSON of the greater number is the first to ride
        RideTie z = Checks.with("m1010;p5,5,5,1;p5,5,5,1;b5,5,5,1,0,99");
        int[] first = {0, 1, 1, 0};
        for (int aim = 0; aim < 3; aim++) {
            for (int i = 0; i < 4; i++) {
                Checks.due("row by AIM " + aim, z.row(0, aim, NONE, i / 2, i % 2), first[i]);
            }
        }
        Checks.due("rows", z.rows(0), 2);
    }

    /** Fewer ties are no better, as long as so many are let in. */
    private static void theFirstRowWithMoreTies() {
        RideTie x = Checks.with("m101010;p1,1,1,1;b1,1,1,1,0,99");
        for (int aim = 0; aim < 2; aim++) {
            for (int k = 0; k < 3; k++) {
                Checks.due("with a tie", x.row(0, aim, NONE, k, 0), k < 2 ? 1 : 0);
                Checks.due("with a tie", x.row(0, aim, 1, k, 0), k < 2 ? 1 : 0);
                Checks.due("without", x.row(0, aim, 0, k, 0), 1);
            }
            numbersAre(x, aim, 3, 3, 1, 1);
        }
        numbersAre(x, 2, 3, 3, 0, 0);
        RideTie y = Checks.with("m1010;p8,1,1,99;p5,1,1,99;b2,1,1,1,0,99");
        int[][] rows = {{1, 0, 1, 0}, {0, 1, 1, 0}};
        for (int t = 0; t < 2; t++) {
            for (int i = 0; i < 4; i++) {
                Checks.due("row with " + t, y.row(0, 0, t, i / 2, i % 2), rows[t][i]);
            }
        }
        numbersAre(y, 0, 10, 7, 1, 1);
    }

    private static void costOfFairness() {
        Checks.due("27 to 28", Checks.with("m2010;p20,20,20,99;p9,9,9,99;b4,4,4,1,0,99").cost(0), 1);
        Checks.due("nothing", Checks.with("m1010;p30,1,1,99;p30,1,1,99;b10,1,1,1,0,99").cost(0), 0);
        Checks.due("one alone", Checks.with("m90;p1,1,1,99;b60,1,1,1,0,99").cost(0), 531);
        Checks.due("no BEAST", Checks.with("m90;p1,1,1,99").cost(0), 0);
    }

    private static void fewestTies() {
        Checks.due("none without a BEAST", Checks.with("m9090;p1,1,1,99").fewest(0), 0);
        Checks.due("none for one alone", Checks.with("m9090;p9,1,1,99;b5,1,1,1,0,99").fewest(0), 0);
        // left at GATE 1, as the BEAST is slow on GROUND 1: a tie
        RideTie x = Checks.with("m1011;p9,3,1,99;b5,9,1,1,0,99");
        Checks.due("LAST", x.best(0, 0, NONE, 0), 8);
        Checks.due("fewest", x.fewest(0), 1);
        // the first row of the best has a tie, a later one has none: it is the least t, not that row's TIES
        RideTie y = Checks.with("m1010;p8,1,1,99;p5,1,1,99;b2,1,1,1,0,99");
        Checks.due("LAST", y.best(0, 0, NONE, 0), 10);
        Checks.due("TIES of the first row", y.best(0, 0, NONE, 3), 1);
        Checks.due("as soon with none", y.best(0, 0, 0, 0), 10);
        Checks.due("fewest", y.fewest(0), 0);
        RideTie z = Checks.with("m101010;p5,5,5,99;p9,9,9,99;b5,5,5,1,0,99");
        Checks.due("LAST", z.best(0, 0, NONE, 0), 15);
        Checks.due("fewest", z.fewest(0), 0);
    }

    private static void asLameAsItIsNow() {
        RideTie x = Checks.with("m10;p10,1,1,99;p15,1,1,99;b4,1,1,1,0,99");
        Checks.due("PERSON 1 rides", x.row(0, 0, NONE, 0, 1), 1);
        Checks.due("LAST", x.best(0, 0, NONE, 0), 10);
        x.lame(0, 0, 0);
        Checks.due("PERSON 0 rides", x.row(0, 0, NONE, 0, 0), 1);
        Checks.due("LAST", x.best(0, 0, NONE, 0), 15);
        x.lame(0, 1, 0);
        Checks.due("LAST", x.best(0, 0, NONE, 0), 10);
        Checks.due("refused", x.lame(0, 2, 0), RideTie.UNKNOWN);
        Checks.due("LAST", x.best(0, 0, NONE, 0), 10);
        x.lame(0, 0, 0);
        x.lame(0, NONE, 0);
        Checks.due("LAST", x.best(0, 0, NONE, 0), 10);
        Checks.due("rows", x.rows(0), 3);
    }

    /** Another PERSON from the same PIECE on, the same one from another PIECE on, nobody. */
    private static void eachChangeOfWhoIsLame() {
        int[][] lame = {{0, 0}, {1, 0}, {1, 1}, {0, 1}, {0, 0}, {NONE, 0}, {1, 1}, {1, 0}, {NONE, 0}, {0, 1}};
        RideTie x = Checks.with("m1020;p10,1,1,99;p10,1,1,99");
        Checks.due("LAST", x.best(0, 0, NONE, 0), 30);
        Checks.due("FIRST", x.best(0, 0, NONE, 1), 30);
        RideTie y = Checks.with("m1020;p10,1,1,99;p30,1,1,99");
        for (int[] told : lame) {
            x.lame(0, told[0], told[1]);
            y.lame(0, told[0], told[1]);
            int more = told[0] == NONE ? 0 : told[1] == 0 ? 30 : 20;
            Checks.due("LAST", x.best(0, 0, NONE, 0), 30 + more);
            Checks.due("LAST", y.best(0, 0, NONE, 0), 90 + (told[0] == 1 ? 3 * more : 0));
            Checks.due("FIRST", y.best(0, 0, NONE, 1), 30 + (told[0] == 0 ? more : 0));
        }
    }

    private static void eachRoadByItself() {
        RideTie x = Checks.with("m10;p10,1,1,99;b4,1,1,1,0,99");
        Checks.read(x, "m20;p10,1,1,99;b4,1,1,1,0,99");
        Checks.read(x, road(6, 4, 2));
        Checks.due("ROAD 1", x.best(1, 0, NONE, 0), 8);
        Checks.due("ROAD 0", x.best(0, 0, NONE, 0), 4);
        Checks.due("ROAD 2", x.best(2, 0, NONE, 0), RideTie.STATE);
        Checks.due("ROAD 3", x.best(3, 0, NONE, 0), RideTie.UNKNOWN);
        Checks.due("PIECE 1 of ROAD 0", x.row(0, 0, NONE, 1, 0), RideTie.UNKNOWN);
        Checks.due("PIECE 5 of ROAD 2", x.row(2, 0, NONE, 5, 3), RideTie.STATE);
    }
}
