/** Promises 21 to 25: the best of all plans (ModelTest compares many more). */
public final class BestTest {
    private static final int NONE = RideTie.NONE;
    private static final String TWO = "m1010;p30,30,30,99;p40,40,40,99;b10,10,10,1,0,99";

    public static void main(String[] args) {
        best();
        fewerTies();
        ofSeveralTheSoonest();
        ofSeveralTheFirstRow();
        cost();
        fewest();
        rows();
        none();
        lame();
        manyRows();
        refused();
        Checks.end();
    }

    private static void bestIs(RideTie x, int aim, int t, int... numbers) {
        for (int what = 0; what < 4; what++) {
            Checks.due("best(0, " + aim + ", " + t + ", " + what + ")", x.best(0, aim, t, what), numbers[what]);
        }
    }

    private static void rowIs(RideTie x, int aim, int t, int... cells) {
        int people = x.ofRoad(0, 1);
        for (int i = 0; i < cells.length; i++) {
            int got = x.row(0, aim, t, i / people, i % people);
            Checks.due("cell " + i + " of row(0, " + aim + ", " + t + ")", got, cells[i]);
        }
    }

    private static void best() {
        RideTie x = Checks.with(TWO);
        // PERSON 1 rides first and ties: PERSON 0 walks 30 and rides 10, PERSON 1 rides 10 and walks 40
        bestIs(x, 0, NONE, 50, 40, 1, 1);
        rowIs(x, 0, NONE, 0, 1, 1, 0);
        // PERSON 1 rides all the way, PERSON 0 walks
        bestIs(x, 1, NONE, 60, 20, 2, 0);
        rowIs(x, 1, NONE, 0, 1, 0, 1);
        bestIs(x, 2, NONE, 50, 40, 1, 1);
        rowIs(x, 2, NONE, 0, 1, 1, 0);
    }

    private static void fewerTies() {
        RideTie x = Checks.with(TWO);
        bestIs(x, 0, 0, 60, 20, 2, 0);
        rowIs(x, 0, 0, 0, 1, 0, 1);
        bestIs(x, 0, 1, 50, 40, 1, 1);
        bestIs(x, 0, 12, 50, 40, 1, 1);
        bestIs(x, 2, 0, 60, 20, 2, 0);
    }

    private static void ofSeveralTheSoonest() {
        // by AIM 1 either may ride all the way: as PERSON 1 does, the last is there sooner
        RideTie x = Checks.with("m10;p30,1,1,99;p40,1,1,99;b10,1,1,1,0,99");
        bestIs(x, 1, NONE, 30, 10, 1, 0);
        rowIs(x, 1, NONE, 0, 1);
        // by AIM 2 it is a mile for one of them, too
        bestIs(x, 2, NONE, 30, 10, 1, 0);
    }

    private static void ofSeveralTheFirstRow() {
        // two alike and a beast as slow: all rows are as soon
        RideTie x = Checks.with("m1010;p5,5,5,99;p5,5,5,99;b5,5,5,2,0,99");
        rowIs(x, 0, NONE, 0, 0, 0, 0);
        bestIs(x, 0, NONE, 10, 10, 2, 0);
        rowIs(x, 1, NONE, 0, 0, 0, 0);
        rowIs(x, 2, NONE, 1, 1, 1, 1);
        // the first row has more ties than a later one, and is taken as long as it may be
        RideTie y = Checks.with("m101010;p5,5,5,99;p5,5,5,99;b5,5,5,1,0,99");
        bestIs(y, 2, NONE, 15, 15, 2, 1);
        rowIs(y, 2, NONE, 0, 1, 0, 1, 1, 0);
        bestIs(y, 2, 0, 15, 15, 3, 0);
        rowIs(y, 2, 0, 0, 0, 0, 0, 0, 0);
        // two beasts alike: BEAST 0 comes first
        RideTie z = Checks.with("m10;p5,5,5,99;p5,5,5,99;b2,2,2,2,0,99;b2,2,2,2,0,99");
        rowIs(z, 0, NONE, 1, 1);
    }

    private static void cost() {
        Checks.due("cost", Checks.with(TWO).cost(0), 0);
        // that nobody walks costs much: the beasts are slow
        RideTie x = Checks.with("m1020;p5,5,5,99;p7,7,7,99;b9,9,9,1,0,99;b8,8,8,1,0,99");
        Checks.due("LAST by AIM 0", x.best(0, 0, NONE, 0), 21);
        Checks.due("LAST by AIM 2", x.best(0, 2, NONE, 0), 27);
        Checks.due("WALKED by AIM 2", x.best(0, 2, NONE, 2), 0);
        Checks.due("cost", x.cost(0), 6);
    }

    private static void fewest() {
        Checks.due("fewest", Checks.with(TWO).fewest(0), 1);
        Checks.due("fewest", Checks.with("m1010;p5,5,5,99;p5,5,5,99;b5,5,5,1,0,99").fewest(0), 0);
        // four PIECES: to tie at each GATE is no sooner than to tie once, in the middle
        RideTie x = Checks.with("m10101010;p30,30,30,99;p30,30,30,99;b10,10,10,1,0,99");
        Checks.due("LAST", x.best(0, 0, NONE, 0), 80);
        Checks.due("TIES of the first row", x.best(0, 0, NONE, 3), 1);
        Checks.due("fewest", x.fewest(0), 1);
        Checks.due("LAST with none", x.best(0, 0, 0, 0), 120);
    }

    private static void rows() {
        // the beast goes as far as it is ridden by one: 1 and 2 and 4 rows
        Checks.due("rows", Checks.with(TWO).rows(0), 7);
        Checks.due("rows", Checks.with("m10;p5,5,5,99;p5,5,5,99;b5,5,5,2,0,99").rows(0), 4);
        Checks.due("rows", Checks.with("m10;p5,5,5,99;p5,5,5,0;b5,5,5,2,0,99").rows(0), 2);
        Checks.due("rows", Checks.with("m90;p5,5,5,99").rows(0), 1);
        Checks.due("rows", Checks.with("m90;p5,5,5,8").rows(0), 0);
    }

    private static void none() {
        RideTie x = Checks.with("m9090;p5,5,5,17");
        for (int aim = 0; aim < 3; aim++) {
            bestIs(x, aim, NONE, NONE, NONE, NONE, NONE);
            bestIs(x, aim, 0, NONE, NONE, NONE, NONE);
            Checks.due("row", x.row(0, aim, NONE, 1, 0), NONE);
        }
        Checks.due("cost", x.cost(0), NONE);
        Checks.due("fewest", x.fewest(0), NONE);
        Checks.due("rows", x.rows(0), 0);
        // both are too weak to walk all the way: there is none without a tie
        RideTie y = Checks.with("m9090;p5,5,5,9;p5,5,5,9;b5,5,5,1,0,99");
        bestIs(y, 0, 0, NONE, NONE, NONE, NONE);
        Checks.due("row", y.row(0, 0, 0, 0, 0), NONE);
        bestIs(y, 0, 1, 90, 90, 9, 1);
        Checks.due("fewest", y.fewest(0), 1);
        Checks.due("rows", y.rows(0), 2);
    }

    private static void lame() {
        RideTie x = Checks.with(TWO);
        bestIs(x, 0, NONE, 50, 40, 1, 1);
        x.lame(0, 0, 0);
        bestIs(x, 0, NONE, 70, 50, 1, 1);
        rowIs(x, 0, NONE, 0, 1, 1, 0);
        x.lame(0, 1, 0);
        // PERSON 1 rides all the way now
        bestIs(x, 0, NONE, 60, 20, 2, 0);
        rowIs(x, 0, NONE, 0, 1, 0, 1);
        x.lame(0, 1, 1);
        bestIs(x, 0, NONE, 50, 40, 1, 1);
        rowIs(x, 0, NONE, 1, 0, 0, 1);
        x.lame(0, 0, 0);
        x.lame(0, NONE, 0);
        bestIs(x, 0, NONE, 50, 40, 1, 1);
    }

    private static String road(int pieces, int people, int beasts) {
        StringBuilder text = new StringBuilder("m");
        text.append("10".repeat(pieces));
        text.append(";p5,5,5,99".repeat(people));
        text.append(";b4,4,4,1,0,99".repeat(beasts));
        return text.toString();
    }

    private static void manyIs(int pieces, int people, int beasts, boolean isMany) {
        RideTie x = Checks.with(road(pieces, people, beasts));
        String name = pieces + ", " + people + ", " + beasts;
        Checks.due("rows of " + name, x.rows(0) == RideTie.STATE ? 1 : 0, isMany ? 1 : 0);
        Checks.due("best of " + name, x.best(0, 0, NONE, 0) == RideTie.STATE ? 1 : 0, isMany ? 1 : 0);
        Checks.due("row of " + name, x.row(0, 0, NONE, 0, 0) == RideTie.STATE ? 1 : 0, isMany ? 1 : 0);
        Checks.due("cost of " + name, x.cost(0) == RideTie.STATE ? 1 : 0, isMany ? 1 : 0);
        Checks.due("fewest of " + name, x.fewest(0) == RideTie.STATE ? 1 : 0, isMany ? 1 : 0);
    }

    private static void manyRows() {
        manyIs(4, 4, 1, false);
        manyIs(6, 3, 1, true);
        manyIs(5, 4, 1, true);
        manyIs(5, 3, 1, false);
        manyIs(5, 2, 2, false);
        manyIs(6, 2, 2, true);
        manyIs(3, 4, 2, true);
        manyIs(6, 4, 2, true);
        manyIs(6, 4, 0, false);
        Checks.due("rows without a beast", Checks.with(road(6, 4, 0)).rows(0), 1);
        // refusals ahead of that
        RideTie x = Checks.with(road(6, 4, 2));
        Checks.due("aim", x.best(0, 3, NONE, 0), RideTie.OUTSIDE);
        Checks.due("what", x.best(0, 0, NONE, 4), RideTie.OUTSIDE);
        Checks.due("aim", x.row(0, 3, NONE, 0, 0), RideTie.OUTSIDE);
        Checks.due("piece", x.row(0, 3, NONE, 6, 0), RideTie.UNKNOWN);
    }

    private static void refused() {
        RideTie x = Checks.with(TWO);
        int[] wrongMost = {-1, -2, -8, -10, 13, Integer.MAX_VALUE, Integer.MIN_VALUE};
        for (int t : wrongMost) {
            Checks.due("t " + t, x.best(0, 0, t, 0), RideTie.OUTSIDE);
            Checks.due("t " + t, x.row(0, 0, t, 0, 0), RideTie.OUTSIDE);
        }
        int[] wrongAims = {-1, 3, Integer.MIN_VALUE};
        for (int aim : wrongAims) {
            Checks.due("aim " + aim, x.best(0, aim, NONE, 0), RideTie.OUTSIDE);
            Checks.due("aim " + aim, x.row(0, aim, NONE, 0, 0), RideTie.OUTSIDE);
        }
        Checks.due("what", x.best(0, 0, NONE, -1), RideTie.OUTSIDE);
        Checks.due("what", x.best(0, 0, NONE, 4), RideTie.OUTSIDE);
        int[] wrongRoads = {-1, 1, 3, Integer.MAX_VALUE};
        for (int road : wrongRoads) {
            Checks.due("road", x.best(road, 3, 13, 4), RideTie.UNKNOWN);
            Checks.due("road", x.row(road, 3, 13, 0, 0), RideTie.UNKNOWN);
            Checks.due("road", x.cost(road), RideTie.UNKNOWN);
            Checks.due("road", x.fewest(road), RideTie.UNKNOWN);
            Checks.due("road", x.rows(road), RideTie.UNKNOWN);
        }
        Checks.due("piece", x.row(0, 3, 13, 2, 0), RideTie.UNKNOWN);
        Checks.due("piece", x.row(0, 3, 13, -1, 0), RideTie.UNKNOWN);
        Checks.due("person", x.row(0, 3, 13, 0, 2), RideTie.UNKNOWN);
        Checks.due("person", x.row(0, 3, 13, 0, -1), RideTie.UNKNOWN);
    }
}
