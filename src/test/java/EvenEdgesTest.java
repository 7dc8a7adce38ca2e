/** "4 EVEN" of the document, sentence by sentence. */
public final class EvenEdgesTest {

    public static void main(String[] args) {
        allAlike();
        aPaceAboveTheBeasts();
        noMoreThanAllMiles();
        oneIsThereWithoutARide();
        whatIsNotLookedAt();
        leastTerms();
        withoutABeast();
        Checks.end();
    }

    private static long common(long a, long b) {
        return b == 0 ? a : common(b, a % b);
    }

    private static void evenIs(RideTie x, int road, long upper, long lower) {
        long divisor = common(upper, lower);
        Checks.due("even(" + road + ", 0)", x.even(road, 0), upper / divisor);
        Checks.due("even(" + road + ", 1)", x.even(road, 1), lower / divisor);
    }

    private static void shareIs(RideTie x, int road, int p, long upper, long lower) {
        long divisor = common(upper, lower);
        Checks.due("share(" + road + ", " + p + ", 0)", x.share(road, p, 0), upper / divisor);
        Checks.due("share(" + road + ", " + p + ", 1)", x.share(road, p, 1), lower / divisor);
    }

    /** So many alike on so many BEASTS that hold so many: enough for all, just enough, too few. */
    private static void allAlike() {
        String[] roads = {"m10", "m2011", "m909090909090"};
        int[] all = {1, 3, 54};
        for (int road = 0; road < 3; road++) {
            for (int people = 1; people <= 4; people++) {
                for (int beasts = 1; beasts <= 2; beasts++) {
                    for (int holds = 1; holds <= 2; holds++) {
                        String text = roads[road] + ";p10,1,1,0".repeat(people)
                            + (";b4,9,9," + holds + ",30,9").repeat(beasts);
                        RideTie x = Checks.with(text);
                        int places = Math.min(beasts * holds, people);
                        evenIs(x, 0, all[road] * (10L * people - 6L * places), people);
                        for (int p = 0; p < people; p++) {
                            shareIs(x, 0, p, (long) all[road] * places, people);
                        }
                    }
                }
            }
        }
    }

    /** One alone with a BEAST: it rides all the way, or none of it. */
    private static void aPaceAboveTheBeasts() {
        for (int pace : new int[] {1, 2, 29, 30, 31, 59, 60}) {
            for (int beast : new int[] {1, 2, 29, 30, 31, 59, 60}) {
                RideTie x = Checks.with("m3020;p" + pace + ",9,9,99;b" + beast + ",9,9,1,0,9");
                evenIs(x, 0, 5L * Math.min(pace, beast), 1);
                shareIs(x, 0, 0, pace > beast ? 5 : 0, 1);
            }
        }
    }

    private static void noMoreThanAllMiles() {
        // (60 - T) / 50 and (11 - T) / 1 are 1 together
        RideTie x = Checks.with("m50;p60,1,1,99;p11,1,1,99;b10,1,1,1,0,9");
        evenIs(x, 0, 5 * 560, 51);
        shareIs(x, 0, 0, 250, 51);
        shareIs(x, 0, 1, 5, 51);
        RideTie y = Checks.with("m50;p60,1,1,99;p12,1,1,99;b10,1,1,2,0,9");
        evenIs(y, 0, 50, 1);
        shareIs(y, 0, 0, 5, 1);
        shareIs(y, 0, 1, 5, 1);
        // BEASTS for four: nobody rides more than all MILES
        RideTie z = Checks.with("m10;p60,1,1,99;p59,1,1,99;b10,1,1,2,0,9;b10,1,1,2,0,9");
        evenIs(z, 0, 10, 1);
        shareIs(z, 0, 0, 1, 1);
        shareIs(z, 0, 1, 1, 1);
    }

    private static void oneIsThereWithoutARide() {
        // two share one BEAST and are there at 35 a mile: whoever walks at 34, 35 rides none, at 36 some
        for (int pace = 30; pace <= 36; pace++) {
            RideTie x = Checks.with("m10;p60,1,1,9;p60,1,1,9;p" + pace + ",1,1,9;b10,1,1,1,1,9");
            if (pace <= 35) {
                evenIs(x, 0, 35, 1);
                shareIs(x, 0, 0, 1, 2);
                shareIs(x, 0, 2, 0, 1);
            } else {
                // (60 - T) / 50, twice, and (36 - T) / 26 are 1 together
                evenIs(x, 0, 60 * 26 + 60 * 26 + 36 * 50 - 26 * 50, 26 + 26 + 50);
                Checks.hold("PERSON 2 rides some", x.share(0, 2, 0) > 0);
                Checks.hold("PERSON 0 rides less than half", 2 * x.share(0, 0, 0) < x.share(0, 0, 1));
            }
        }
        // one who is slower than all others, and slower than the BEAST: it walks, and T is its own
        RideTie y = Checks.with("m30;p5,1,1,9;p9,1,1,9;b9,1,1,1,1,9");
        evenIs(y, 0, 27, 1);
        shareIs(y, 0, 0, 0, 1);
        shareIs(y, 0, 1, 0, 1);
    }

    private static void whatIsNotLookedAt() {
        RideTie x = Checks.with("m4131;p20,60,60,0;p15,60,60,0;b5,60,60,1,30,9;b60,60,60,2,30,9");
        // both ride all the way: two BEASTS as BEAST 0, one place each
        evenIs(x, 0, 35, 1);
        shareIs(x, 0, 0, 7, 1);
        for (int p = 0; p < 2; p++) {
            for (int k = 0; k < 2; k++) {
                x.lame(0, p, k);
                evenIs(x, 0, 35, 1);
                shareIs(x, 0, 1, 7, 1);
            }
        }
        // it tells no more than the ROAD: PLANS and GONE are not looked at
        x.gone(12);
        Checks.draw(x, 2, 0, 1, 60, 0, 0, 0, 0);
        evenIs(x, 0, 35, 1);
        // HOLDS of BEAST 0, not of BEAST 1
        Checks.read(x, "m10;p20,1,1,9;p20,1,1,9;p20,1,1,9;b5,1,1,1,1,9;b5,1,1,2,1,9");
        evenIs(x, 1, 10, 1);
        Checks.read(x, "m10;p20,1,1,9;p20,1,1,9;p20,1,1,9;b5,1,1,2,1,9;b5,1,1,1,1,9");
        evenIs(x, 2, 5, 1);
        evenIs(x, 0, 35, 1);
    }

    private static void leastTerms() {
        RideTie x = Checks.with("m20;p10,1,1,9;p10,1,1,9;p10,1,1,9;p10,1,1,9;b4,1,1,1,1,9");
        Checks.due("17 by 1", x.even(0, 0), 17);
        Checks.due("17 by 1", x.even(0, 1), 1);
        Checks.due("1 by 2", x.share(0, 3, 0), 1);
        Checks.due("1 by 2", x.share(0, 3, 1), 2);
        Checks.read(x, "m10;p10,1,1,9;p10,1,1,9;p10,1,1,9;p10,1,1,9;b4,1,1,1,1,9");
        Checks.due("17 by 2", x.even(1, 0), 17);
        Checks.due("17 by 2", x.even(1, 1), 2);
        Checks.read(x, "m10;p4,1,1,9;b4,1,1,1,1,9");
        Checks.due("0 by 1", x.share(2, 0, 0), 0);
        Checks.due("0 by 1", x.share(2, 0, 1), 1);
    }

    private static void withoutABeast() {
        RideTie x = Checks.with("m10;p10,1,1,9");
        x.put(0, 0, 0);
        for (int which = -1; which <= 2; which++) {
            Checks.due("even", x.even(0, which), RideTie.LOST);
            Checks.due("share", x.share(0, 0, which), RideTie.LOST);
            Checks.due("share", x.share(0, 1, which), RideTie.LOST);
        }
        Checks.due("fault() is as it was", x.fault(), 1);
        Checks.due("BEST is told all the same", x.best(0, 0, RideTie.NONE, 0), 10);
    }
}
