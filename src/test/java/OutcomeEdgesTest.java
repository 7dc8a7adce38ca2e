import java.math.BigInteger;

/** OUTCOME, TIES, ALONE and SAFE, sentence by sentence. */
public final class OutcomeEdgesTest {
    private static final int NONE = RideTie.NONE;

    public static void main(String[] args) {
        lastAndFirst();
        mostWalked();
        gatesButTheFirstAndTheLast();
        tiesWithNone();
        tiesOfBothBeasts();
        asManyTiesAsThereCanBe();
        laterThanItHadCome();
        aloneAtAMeet();
        safeOfAllNumbers();
        goneAsItIsNow();
        Checks.end();
    }

    private static void outcomeIs(RideTie x, int q, int... numbers) {
        for (int what = 0; what < numbers.length; what++) {
            Checks.due("outcome(" + q + ", " + what + ")", x.outcome(q, what), numbers[what]);
        }
    }

    /** Whoever it is who is the first, the last: of all at the last GATE. */
    private static void lastAndFirst() {
        for (int fast = 0; fast < 4; fast++) {
            for (int slow = 0; slow < 4; slow++) {
                StringBuilder text = new StringBuilder("m1020");
                for (int p = 0; p < 4; p++) {
                    text.append(";p").append(p == slow ? 50 : p == fast ? 2 : 10).append(",1,1,99");
                }
                RideTie x = Checks.planned(text.toString(), new int[8]);
                outcomeIs(x, 0, 150, fast == slow ? 30 : 6, 3, 0, 0);
            }
        }
        outcomeIs(Checks.planned("m10;p7,1,1,99", 0), 0, 7, 7, 1, 0, 0);
        // not of a GATE ahead of it: the fast one of PIECE 0 is the slow one of PIECE 1
        outcomeIs(Checks.planned("m1011;p1,9,1,99;p5,1,1,99", 0, 0, 0, 0), 0, 10, 6, 2, 0, 0);
    }

    private static void mostWalked() {
        for (int p = 0; p < 4; p++) {
            int[] cells = new int[12];
            // three ride all the way, two of them on one BEAST
            for (int k = 0; k < 3; k++) {
                for (int other = 0, rider = 0; other < 4; other++) {
                    if (other != p) {
                        cells[4 * k + other] = rider < 2 ? 1 : 2;
                        rider++;
                    }
                }
            }
            RideTie x = Checks.planned("m102030" + ";p5,5,5,99".repeat(4) + ";b1,1,1,2,0,99;b2,2,2,1,0,99", cells);
            outcomeIs(x, 0, 30, 6, 6, 0, 0);
            for (int other = 0; other < 4; other++) {
                Checks.due("walked", x.walked(0, other), other == p ? 6 : 0);
            }
        }
        RideTie y = Checks.planned("m1020;p5,5,5,99;p5,5,5,99;b1,1,1,1,0,99", 1, 0, 0, 1);
        outcomeIs(y, 0, 11, 7, 2, 1, 1);
        Checks.due("walked", y.walked(0, 0), 2);
        Checks.due("walked", y.walked(0, 1), 1);
        outcomeIs(Checks.planned("m1020;p5,5,5,99;b1,1,1,1,0,99", 1, 1), 0, 3, 3, 0, 0, 0);
    }

    /** A BEAST ridden up to a GATE, and left there: a tie at all GATES but the last one. */
    private static void gatesButTheFirstAndTheLast() {
        for (int pieces = 1; pieces <= 6; pieces++) {
            for (int ridden = 0; ridden <= pieces; ridden++) {
                int[] cells = new int[pieces];
                for (int k = 0; k < ridden; k++) {
                    cells[k] = 1;
                }
                RideTie x = Checks.planned("m" + "10".repeat(pieces) + ";p5,5,5,99;b2,2,2,1,9,99", cells);
                boolean isTied = ridden > 0 && ridden < pieces;
                outcomeIs(x, 0, 5 * pieces - 3 * ridden, 5 * pieces - 3 * ridden, pieces - ridden, isTied ? 1 : 0, 0);
                Checks.due("came", x.came(0, 0, ridden), 2 * ridden);
                Checks.due("came", x.came(0, 0, pieces), ridden == pieces ? 2 * pieces : NONE);
            }
        }
        // one alone on one PIECE: whoever rides, there is no GATE for a tie
        outcomeIs(Checks.planned("m10;p5,5,5,99;p5,5,5,99;b2,2,2,2,9,99", 1, 1), 0, 2, 2, 0, 0, 0);
    }

    private static void tiesWithNone() {
        // two come, one goes on; one comes, two go on; none goes on; two others go on
        String text = "m1010" + ";p5,5,5,99".repeat(4) + ";b2,2,2,2,0,99";
        outcomeIs(Checks.planned(text, 1, 1, 0, 0, 1, 0, 0, 0), 0, 10, 4, 2, 1, 0);
        outcomeIs(Checks.planned(text, 1, 0, 0, 0, 1, 1, 0, 0), 0, 10, 7, 2, 1, 1);
        outcomeIs(Checks.planned(text, 1, 1, 0, 0, 0, 0, 0, 0), 0, 10, 7, 2, 1, 0);
        outcomeIs(Checks.planned(text, 1, 1, 0, 0, 0, 0, 1, 1), 0, 7, 7, 1, 1, 1);
        outcomeIs(Checks.planned(text, 1, 1, 0, 0, 1, 1, 0, 0), 0, 10, 4, 2, 0, 0);
        outcomeIs(Checks.planned(text, 0, 0, 0, 0, 0, 0, 0, 0), 0, 10, 10, 2, 0, 0);
    }

    private static void tiesOfBothBeasts() {
        String text = "m101010;p5,5,5,99;p5,5,5,99;b2,2,2,1,0,99;b3,3,3,1,0,99";
        outcomeIs(Checks.planned(text, 1, 2, 1, 2, 1, 2), 0, 9, 6, 0, 0, 0);
        outcomeIs(Checks.planned(text, 1, 2, 2, 1, 2, 1), 0, 9, 7, 0, 2, 1);
        outcomeIs(Checks.planned(text, 1, 2, 0, 0, 0, 0), 0, 13, 12, 2, 2, 0);
        outcomeIs(Checks.planned(text, 1, 2, 0, 2, 0, 2), 0, 12, 9, 2, 1, 0);
        outcomeIs(Checks.planned(text, 1, 2, 1, 0, 1, 0), 0, 13, 6, 2, 1, 0);
    }

    /** Both BEASTS change their riders at the first so many of five GATES. */
    private static void asManyTiesAsThereCanBe() {
        for (int changes = 0; changes <= 5; changes++) {
            int[] cells = new int[12];
            for (int k = 0; k < 6; k++) {
                int swapped = Math.min(k, changes) % 2;
                cells[2 * k] = 1 + swapped;
                cells[2 * k + 1] = 2 - swapped;
            }
            RideTie x = Checks.planned("m101010101010;p5,5,5,0;p5,5,5,0;b2,2,2,1,1,99;b2,2,2,1,1,99", cells);
            outcomeIs(x, 0, 12 + changes, 12 + changes, 0, 2 * changes, 2 * changes);
        }
    }

    private static void laterThanItHadCome() {
        // the BEAST comes at 10; its next rider on foot at 9, 10, 11, 12; it STANDS 0, 1
        for (int pace = 9; pace <= 12; pace++) {
            for (int stands = 0; stands <= 1; stands++) {
                String text = "m1010;p50,50,50,99;p" + pace + ",1,1,99;b10,10,10,1," + stands + ",99";
                RideTie x = Checks.planned(text, 1, 0, 0, 1);
                int went = Math.max(pace, 10 + stands);
                Checks.due("went", x.went(0, 1, 1), went);
                outcomeIs(x, 0, 60, went + 10, 1, 1, went > 10 ? 1 : 0);
            }
        }
        // it stands for its LIMIT with the same rider: no tie, so not alone
        outcomeIs(Checks.planned("m9090;p50,1,1,99;b2,1,1,1,30,9", 1, 1), 0, 66, 66, 0, 0, 0);
    }

    private static void aloneAtAMeet() {
        // PERSON 1 and the BEAST are there at 3, PERSON 0 at 3, too: none is later, but with a REST
        RideTie x = Checks.with("m1010;p3,3,3,99;p8,8,8,99;b3,3,3,1,0,99");
        Checks.draw(x, 0, 0, 0, 0, 0, 1, 1, 0);
        Checks.draw(x, 1, 0, 1, 0, 0, 1, 1, 0);
        Checks.draw(x, 2, 0, 1, 1, 0, 1, 1, 0);
        Checks.draw(x, 2, 0, 1, 1, 0, 1, 0, 1);
        outcomeIs(x, 0, 11, 6, 1, 1, 0);
        outcomeIs(x, 1, 11, 6, 1, 1, 0);
        outcomeIs(x, 2, 12, 7, 1, 1, 1);
        outcomeIs(x, 3, 7, 7, 2, 0, 0);
    }

    private static long[] share(int gone, int alone) {
        BigInteger upper = BigInteger.valueOf(12 - gone).pow(alone);
        BigInteger lower = BigInteger.valueOf(12).pow(alone);
        BigInteger common = upper.gcd(lower);
        return new long[] {upper.divide(common).longValueExact(), lower.divide(common).longValueExact()};
    }

    /** Each GONE with each number that are ALONE, 0 .. 10. */
    private static void safeOfAllNumbers() {
        for (int alone = 0; alone <= 10; alone++) {
            int[] cells = new int[12];
            for (int k = 0; k < 6; k++) {
                // BEAST 0 changes its rider at the first GATES, BEAST 1 at the last ones
                int first = Math.min(k, (alone + 1) / 2) % 2;
                cells[2 * k] = 1 + first;
                cells[2 * k + 1] = 2 - first;
            }
            if (alone % 2 == 1) {
                // one BEAST is left at its last change, and so is tied without being ALONE
                for (int k = (alone + 1) / 2; k < 6; k++) {
                    for (int p = 0; p < 2; p++) {
                        cells[2 * k + p] = cells[2 * k + p] == 2 ? 0 : 1;
                    }
                }
            }
            RideTie x = Checks.planned("m101010101010;p5,5,5,99;p5,5,5,99;b2,2,2,1,1,99;b2,2,2,1,1,99", cells);
            Checks.due("ALONE", x.outcome(0, 4), alone);
            for (int gone = 0; gone <= 12; gone++) {
                x.gone(gone);
                long[] due = share(gone, alone);
                Checks.due("SAFE of " + alone + ", GONE " + gone, x.safe(0, 0), due[0]);
                Checks.due("SAFE of " + alone + ", GONE " + gone, x.safe(0, 1), due[1]);
            }
        }
    }

    private static void goneAsItIsNow() {
        RideTie x = Checks.planned("m1010;p5,5,5,99;p5,5,5,99;b2,2,2,1,1,99", 1, 0, 0, 1);
        Checks.due("GONE is 1 at first", x.safe(0, 0), 11);
        Checks.due("GONE is 1 at first", x.safe(0, 1), 12);
        x.gone(3);
        Checks.due("GONE is 3", x.safe(0, 0), 3);
        Checks.due("GONE is 3", x.safe(0, 1), 4);
        x.gone(13);
        Checks.due("GONE is 3", x.safe(0, 0), 3);
        x.gone(12);
        Checks.due("none is not gone", x.safe(0, 0), 0);
        Checks.due("in least terms", x.safe(0, 1), 1);
        x.gone(0);
        Checks.due("none is gone", x.safe(0, 0), 1);
        Checks.due("none is gone", x.safe(0, 1), 1);
    }
}
