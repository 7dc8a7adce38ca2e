import java.math.BigInteger;

/** Promises 26 and 27: EVEN, and RIDES of each PERSON. */
public final class EvenTest {

    public static void main(String[] args) {
        ordinary();
        onlyWhatHelps();
        enoughForAll();
        asIfAllWereAlike();
        refused();
        againstItsOwnTerms();
        Checks.end();
    }

    private static void evenIs(RideTie x, long upper, long lower) {
        Checks.due("even(0, 0)", x.even(0, 0), upper);
        Checks.due("even(0, 1)", x.even(0, 1), lower);
    }

    private static void shareIs(RideTie x, int p, long upper, long lower) {
        Checks.due("share(0, " + p + ", 0)", x.share(0, p, 0), upper);
        Checks.due("share(0, " + p + ", 1)", x.share(0, p, 1), lower);
    }

    private static void ordinary() {
        // seven miles: (140 - T) / 15 and (105 - T) / 10 are 7 together
        RideTie x = Checks.with(Checks.TWO_AND_ONE);
        evenIs(x, 77, 1);
        shareIs(x, 0, 21, 5);
        shareIs(x, 1, 14, 5);
        // two alike on one beast: each rides half
        RideTie y = Checks.with("m30;p10,1,1,9;p10,1,1,9;b4,1,1,1,1,9");
        evenIs(y, 21, 1);
        shareIs(y, 0, 3, 2);
        shareIs(y, 1, 3, 2);
        // three alike on a beast for two: each rides two thirds
        RideTie z = Checks.with("m50;p10,1,1,9;p10,1,1,9;p10,1,1,9;b4,1,1,2,1,9");
        evenIs(z, 30, 1);
        shareIs(z, 2, 10, 3);
    }

    private static void onlyWhatHelps() {
        // PERSON 1 walks faster than the beast goes; PERSON 0 rides all the way
        RideTie x = Checks.with("m30;p10,1,1,9;p3,1,1,9;b4,1,1,1,1,9");
        evenIs(x, 12, 1);
        shareIs(x, 0, 3, 1);
        shareIs(x, 1, 0, 1);
        // the beast helps nobody
        RideTie y = Checks.with("m32;p10,1,1,9;p30,1,1,9;b30,1,1,1,1,9");
        evenIs(y, 90, 1);
        shareIs(y, 0, 0, 1);
        shareIs(y, 1, 0, 1);
        // PERSON 1 is there without a ride by when PERSON 0 is there with all of them
        RideTie z = Checks.with("m10;p60,1,1,9;p60,1,1,9;p20,1,1,9;b10,1,1,1,1,9");
        evenIs(z, 35, 1);
        shareIs(z, 0, 1, 2);
        shareIs(z, 1, 1, 2);
        shareIs(z, 2, 0, 1);
    }

    private static void enoughForAll() {
        RideTie x = Checks.with("m90;p10,1,1,9;p30,1,1,9;b4,1,1,2,1,9");
        evenIs(x, 36, 1);
        shareIs(x, 0, 9, 1);
        shareIs(x, 1, 9, 1);
        // two beasts for two: the second is as BEAST 0
        RideTie y = Checks.with("m90;p10,1,1,9;p30,1,1,9;b4,1,1,1,1,9;b60,1,1,1,1,9");
        evenIs(y, 36, 1);
    }

    private static void asIfAllWereAlike() {
        // GROUND, FAR, STANDS, LIMIT, who is LAME, what BEAST 1 is: none of it is looked at
        RideTie x = Checks.with("m3142;p20,1,60,0;p15,60,1,0;b5,60,1,1,30,9");
        evenIs(x, 77, 1);
        x.lame(0, 0, 0);
        evenIs(x, 77, 1);
        shareIs(x, 0, 21, 5);
        RideTie y = Checks.with("m1030;p20,1,1,9;p20,1,1,9;p20,1,1,9;b5,1,1,1,1,9;b50,1,1,2,1,9");
        evenIs(y, 40, 1);
        shareIs(y, 2, 8, 3);
    }

    private static void refused() {
        RideTie x = Checks.with("m10;p1,1,1,9");
        Checks.due("no BEAST", x.even(0, 0), RideTie.LOST);
        Checks.due("no BEAST", x.share(0, 0, 1), RideTie.LOST);
        Checks.due("road", Checks.read(x, Checks.TWO_AND_ONE), 1);
        Checks.due("which", x.even(1, 2), RideTie.LOST);
        Checks.due("which", x.even(1, -1), RideTie.LOST);
        Checks.due("road", x.even(2, 0), RideTie.LOST);
        Checks.due("road", x.even(-1, 0), RideTie.LOST);
        Checks.due("which", x.share(1, 0, 2), RideTie.LOST);
        Checks.due("which", x.share(1, 0, -1), RideTie.LOST);
        Checks.due("person", x.share(1, 2, 0), RideTie.LOST);
        Checks.due("person", x.share(1, -1, 0), RideTie.LOST);
        Checks.due("road", x.share(2, 0, 0), RideTie.LOST);
        Checks.due("even", x.even(1, 0), 77);
    }

    private static void againstItsOwnTerms() {
        Dice dice = new Dice(41);
        for (int turn = 0; turn < 3000; turn++) {
            Text text = Text.thrown(dice, 1);
            RideTie x = new RideTie();
            x.sheet(1, 0, text.codes.length());
            for (int i = 0; i < text.codes.length(); i++) {
                x.put(1, i, text.codes.charAt(i));
            }
            x.road(1, 0, 0, text.codes.length());
            holdsFor(x, text);
        }
    }

    private static BigInteger big(long v) {
        return BigInteger.valueOf(v);
    }

    /** All ride no more than there is; each is there by T; and T is no greater than it must be. */
    private static void holdsFor(RideTie x, Text text) {
        long upper = x.even(0, 0);
        long lower = x.even(0, 1);
        int all = x.ofRoad(0, 3);
        int beast = text.beasts[0][0];
        long capacity = (long) all * text.beasts.length * text.beasts[0][3];
        Checks.hold("least terms of " + text.codes, big(upper).gcd(big(lower)).longValue() == 1 && lower > 0);
        BigInteger sumUpper = BigInteger.ZERO;
        BigInteger sumLower = BigInteger.ONE;
        int soonest = 0;
        for (int p = 0; p < text.people.length; p++) {
            int pace = text.people[p][0];
            soonest = Math.max(soonest, all * Math.min(pace, beast));
            long u = x.share(0, p, 0);
            long l = x.share(0, p, 1);
            Checks.hold("a share of " + text.codes, u >= 0 && l > 0 && u <= all * l && big(u).gcd(big(l)).longValue() == 1);
            // minutes of p: (all times pace times l, less u times what a mile saves) by l
            BigInteger minutes = big(all * pace * l - u * (pace - beast));
            int late = minutes.multiply(big(lower)).compareTo(big(upper).multiply(big(l)));
            Checks.hold("in time by " + text.codes, late == 0 || late < 0 && u == 0);
            sumUpper = sumUpper.multiply(big(l)).add(sumLower.multiply(big(u)));
            sumLower = sumLower.multiply(big(l));
        }
        int over = sumUpper.compareTo(sumLower.multiply(big(capacity)));
        Checks.hold("all together by " + text.codes, over <= 0);
        Checks.hold("no greater than it must be by " + text.codes, over == 0 || upper == soonest * lower);
        Checks.hold("no less than the soonest by " + text.codes, upper >= soonest * lower);
    }
}
