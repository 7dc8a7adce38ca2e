/** Promises 1 to 10: ROADS. */
public final class RoadsTest {

    public static void main(String[] args) {
        newObject();
        roadTold();
        roadRefused();
        firstFaultOfPieces();
        firstFaultOfFolk();
        firstFaultOfNumbers();
        numbersAtTheirEnds();
        pieces();
        people();
        beasts();
        lame();
        minutes();
        gone();
        Checks.end();
    }

    private static void newObject() {
        RideTie x = new RideTie();
        for (int what = 0; what < 4; what++) {
            Checks.due("many of a new one", x.many(what), 0);
        }
        for (int k = 0; k < 4; k++) {
            Checks.due("lose of a new one", x.lose(k), 0);
        }
        Checks.due("ofRoad(0, 0)", x.ofRoad(0, 0), RideTie.UNKNOWN);
        Checks.due("ofPlan(0, 0)", x.ofPlan(0, 0), RideTie.UNKNOWN);
        Checks.due("trace()", x.trace(), 0);
        Checks.due("fault()", x.fault(), 0);
        Checks.due("gone(1)", x.gone(1), 1);
    }

    private static void roadTold() {
        for (int lane = 0; lane < 3; lane++) {
            RideTie x = new RideTie();
            String text = "xx" + Checks.TWO_AND_ONE + "y";
            Checks.write(x, 3, lane, Checks.codes(text));
            Checks.due("from 2 on", x.road(3, lane, 2, text.length() - 3), 0);
            Checks.due("from 1 on", x.road(3, lane, 1, text.length() - 2), -100);
            Checks.due("one too many", x.road(3, lane, 2, text.length() - 2), -100 - 43);
            Checks.due("one too few", x.road(3, lane, 2, text.length() - 4), -100 - 42);
            Checks.due("no code", x.road(3, lane, text.length(), 0), -100);
            Checks.due("again", x.road(3, lane, 2, text.length() - 3), 1);
            Checks.due("again", x.road(3, lane, 2, text.length() - 3), 2);
            Checks.due("full", x.road(3, lane, 2, text.length() - 3), RideTie.FULL);
            Checks.due("fault", x.fault(), 0);
            Checks.due("FIRST FAULT ahead of full", x.road(3, lane, 1, 4), -100);
            Checks.due("many", x.many(0), 3);
            Checks.due("people", x.many(2), 6);
            Checks.due("beasts", x.many(3), 3);
            Checks.due("PIECES", x.ofRoad(2, 0), 2);
            Checks.due("PEOPLE", x.ofRoad(2, 1), 2);
            Checks.due("BEASTS", x.ofRoad(2, 2), 1);
            Checks.due("MILES", x.ofRoad(2, 3), 7);
            Checks.due("what", x.ofRoad(2, 6), RideTie.OUTSIDE);
            Checks.due("what", x.ofRoad(2, -1), RideTie.OUTSIDE);
            Checks.due("road", x.ofRoad(3, 6), RideTie.UNKNOWN);
            Checks.due("road", x.ofRoad(-1, 0), RideTie.UNKNOWN);
        }
    }

    private static void refused(RideTie x, int sheet, int lane, int i, int n, int want, int fault) {
        x.put(0, -1, 0);
        Checks.due("road(" + sheet + ", " + lane + ", " + i + ", " + n + ")", x.road(sheet, lane, i, n), want);
        Checks.due("fault", x.fault(), fault);
    }

    private static void roadRefused() {
        RideTie x = new RideTie();
        Checks.write(x, 0, 1, 'm', '1', '0');
        refused(x, 4, 3, -1, -1, RideTie.UNKNOWN, 0);
        refused(x, -1, 3, -1, -1, RideTie.UNKNOWN, 0);
        refused(x, 1, 3, -1, -1, RideTie.OUTSIDE, 0);
        refused(x, 1, -1, -1, -1, RideTie.OUTSIDE, 0);
        refused(x, 0, 0, -1, -1, -12, 2);
        refused(x, 0, 2, -1, -1, -12, 2);
        refused(x, 1, 0, -1, -1, -11, 1);
        refused(x, 0, 1, -1, -1, -14, 4);
        refused(x, 0, 1, -1, 0, -13, 3);
        refused(x, 0, 1, 4, 0, -13, 3);
        refused(x, 0, 1, 0, 4, -13, 3);
        refused(x, 0, 1, 3, 1, -13, 3);
        refused(x, 0, 1, Integer.MAX_VALUE, Integer.MAX_VALUE, -13, 3);
        refused(x, 0, 1, 1, Integer.MAX_VALUE, -13, 3);
        refused(x, 0, 1, 3, 0, -100, 0);
        refused(x, 0, 1, 0, 3, -103, 0);
        Checks.due("many", x.many(0), 0);
    }

    private static void fault(String text, int place) {
        RideTie x = new RideTie();
        Checks.due("road by " + text, Checks.read(x, text), -100 - place);
        Checks.due("many(0) after " + text, x.many(0), 0);
    }

    private static void fine(String text) {
        Checks.due("road by " + text, Checks.read(new RideTie(), text), 0);
    }

    private static void firstFaultOfPieces() {
        fault("", 0);
        fault("p", 0);
        fault("M", 0);
        fault("m", 1);
        fault("m;", 1);
        fault("m0", 1);
        fault("m00", 1);
        fault("m1", 2);
        fault("m1;", 2);
        fault("m13", 2);
        fault("m10", 3);
        fault("m101", 4);
        fault("m100", 3);
        fault("m10p", 3);
        fault("m101;", 4);
        fault("m101010101010", 13);
        fault("m1010101010101", 13);
        fault("m1010101010100", 13);
        fault("m101010101010;", 14);
        fine("m909192909192;p1,1,1,1");
        fine("m92;p1,1,1,1");
        RideTie x = new RideTie();
        Checks.write(x, 1, 2, 'm' + 256, '1', '0');
        Checks.due("a code is not cut", x.road(1, 2, 0, 3), -100);
    }

    private static void firstFaultOfFolk() {
        String person = ";p1,1,1,1";
        String beast = ";b1,1,1,1,1,9";
        String four = "m10" + person + person + person + person;
        fine(four);
        fault(four + ";", 40);
        fault(four + person, 40);
        fault(four + ";x", 40);
        fine(four + beast + beast);
        fault(four + beast + beast + beast, 66);
        fault(four + beast + beast + person, 66);
        fault(four + beast + person, 53);
        fault("m10" + beast, 4);
        fault("m10;", 4);
        fault("m10;;", 4);
        fault("m10" + person + ";", 13);
        fault("m10" + person + "p", 12);
        fault("m10" + person + beast + ";", 26);
        fault("m10" + person + beast + ";q", 26);
        fault("m10" + person + beast + "b", 25);
    }

    private static void firstFaultOfNumbers() {
        fault("m10;p", 5);
        fault("m10;p,", 5);
        fault("m10;p1", 6);
        fault("m10;p1;", 6);
        fault("m10;p12", 7);
        fault("m10;p123", 7);
        fault("m10;p61", 5);
        fault("m10;p613", 5);
        fault("m10;p0", 5);
        fault("m10;p00", 5);
        fault("m10;p0,", 5);
        fault("m10;p0x", 5);
        fault("m10;p1x", 6);
        fault("m10;p1,", 7);
        fault("m10;p1,2,0", 9);
        fault("m10;p1,2,3", 10);
        fault("m10;p1,2,3,", 11);
        fault("m10;p1,2,3,100", 13);
        fault("m10;p1,2,3,4,", 12);
        fine("m10;p01,02,60,00");
        fine("m10;p01,02,60,0");
        fine("m10;p9,9,9,99");
        String ahead = "m10;p1,2,3,4;b1,2,3,";
        fault(ahead, 20);
        fault(ahead + "0", 20);
        fault(ahead + "3", 20);
        fault(ahead + "10,", 20);
        fault(ahead + "1", 21);
        fault(ahead + "2,31", 22);
        fault(ahead + "2,3", 23);
        fault(ahead + "2,30,", 25);
        fault(ahead + "2,30,8", 25);
        fault(ahead + "2,30,8;", 25);
        fault(ahead + "2,30,08", 25);
        fault(ahead + "2,30,100", 27);
        fault(ahead + "2,30,99,", 27);
        fine(ahead + "2,30,9");
        fine(ahead + "02,00,09");
        fine(ahead + "1,0,99");
    }

    private static void numbersAtTheirEnds() {
        RideTie x = Checks.with("m1092;p01,60,7,0;p2,3,4,99;b60,59,58,2,0,9;b1,02,3,1,30,99");
        int[] first = {1, 60, 7, 0};
        int[] second = {2, 3, 4, 99};
        int[] ox = {60, 59, 58, 2, 0, 9};
        int[] ass = {1, 2, 3, 1, 30, 99};
        for (int what = 0; what < 4; what++) {
            Checks.due("ofPerson(0, 0, " + what + ")", x.ofPerson(0, 0, what), first[what]);
            Checks.due("ofPerson(0, 1, " + what + ")", x.ofPerson(0, 1, what), second[what]);
        }
        for (int what = 0; what < 6; what++) {
            Checks.due("ofBeast(0, 0, " + what + ")", x.ofBeast(0, 0, what), ox[what]);
            Checks.due("ofBeast(0, 1, " + what + ")", x.ofBeast(0, 1, what), ass[what]);
        }
        Checks.due("ofPiece", x.ofPiece(0, 0, 0), 1);
        Checks.due("ofPiece", x.ofPiece(0, 0, 1), 0);
        Checks.due("ofPiece", x.ofPiece(0, 1, 0), 9);
        Checks.due("ofPiece", x.ofPiece(0, 1, 1), 2);
    }

    private static void pieces() {
        RideTie x = Checks.with(Checks.TWO_AND_ONE);
        Checks.due("ofPiece", x.ofPiece(0, 1, 0), 4);
        Checks.due("ofPiece", x.ofPiece(0, 1, 1), 1);
        Checks.due("what", x.ofPiece(0, 1, 2), RideTie.OUTSIDE);
        Checks.due("what", x.ofPiece(0, 1, -1), RideTie.OUTSIDE);
        Checks.due("piece", x.ofPiece(0, 2, 2), RideTie.UNKNOWN);
        Checks.due("piece", x.ofPiece(0, -1, 2), RideTie.UNKNOWN);
        Checks.due("road", x.ofPiece(1, 0, 2), RideTie.UNKNOWN);
        Checks.due("road", x.ofPiece(-1, 0, 0), RideTie.UNKNOWN);
    }

    private static void people() {
        RideTie x = Checks.with(Checks.TWO_AND_ONE);
        Checks.due("ofPerson", x.ofPerson(0, 1, 3), 5);
        Checks.due("what", x.ofPerson(0, 1, 4), RideTie.OUTSIDE);
        Checks.due("what", x.ofPerson(0, 1, -1), RideTie.OUTSIDE);
        Checks.due("person", x.ofPerson(0, 2, 4), RideTie.UNKNOWN);
        Checks.due("person", x.ofPerson(0, -1, 0), RideTie.UNKNOWN);
        Checks.due("road", x.ofPerson(1, 0, 0), RideTie.UNKNOWN);
    }

    private static void beasts() {
        RideTie x = Checks.with(Checks.TWO_AND_ONE);
        Checks.due("ofBeast", x.ofBeast(0, 0, 5), 9);
        Checks.due("what", x.ofBeast(0, 0, 6), RideTie.OUTSIDE);
        Checks.due("what", x.ofBeast(0, 0, -1), RideTie.OUTSIDE);
        Checks.due("beast", x.ofBeast(0, 1, 6), RideTie.UNKNOWN);
        Checks.due("beast", x.ofBeast(0, -1, 0), RideTie.UNKNOWN);
        Checks.due("road", x.ofBeast(1, 0, 0), RideTie.UNKNOWN);
    }

    private static void lameIs(RideTie x, int who, int from) {
        Checks.due("who is LAME", x.ofRoad(0, 4), who);
        Checks.due("from which PIECE on", x.ofRoad(0, 5), from);
    }

    private static void lame() {
        RideTie x = Checks.with(Checks.TWO_AND_ONE);
        lameIs(x, RideTie.NONE, RideTie.NONE);
        Checks.due("nobody is", x.lame(0, RideTie.NONE, 77), 0);
        Checks.due("lame(0, 1, 1)", x.lame(0, 1, 1), 1);
        Checks.due("it was so", x.lame(0, 1, 1), 0);
        lameIs(x, 1, 1);
        Checks.due("from another on", x.lame(0, 1, 0), 1);
        Checks.due("another", x.lame(0, 0, 0), 1);
        lameIs(x, 0, 0);
        Checks.due("piece", x.lame(0, 0, 2), RideTie.UNKNOWN);
        Checks.due("piece", x.lame(0, 0, -9), RideTie.UNKNOWN);
        Checks.due("person", x.lame(0, 2, 0), RideTie.UNKNOWN);
        Checks.due("person", x.lame(0, -1, 0), RideTie.UNKNOWN);
        Checks.due("road", x.lame(1, 0, 0), RideTie.UNKNOWN);
        Checks.due("road", x.lame(1, RideTie.NONE, 0), RideTie.UNKNOWN);
        lameIs(x, 0, 0);
        Checks.due("nobody now", x.lame(0, RideTie.NONE, -1), 1);
        Checks.due("nobody now", x.lame(0, RideTie.NONE, 0), 0);
        lameIs(x, RideTie.NONE, RideTie.NONE);
    }

    private static void minutes() {
        RideTie x = Checks.with(Checks.TWO_AND_ONE);
        Checks.due("walks", x.walks(0, 0, 0), 60);
        Checks.due("walks", x.walks(0, 0, 1), 100);
        Checks.due("walks", x.walks(0, 1, 0), 45);
        Checks.due("walks", x.walks(0, 1, 1), 80);
        Checks.due("rides", x.rides(0, 0, 0), 15);
        Checks.due("rides", x.rides(0, 0, 1), 24);
        x.lame(0, 1, 1);
        Checks.due("ahead of the PIECE", x.walks(0, 1, 0), 45);
        Checks.due("LAME", x.walks(0, 1, 1), 160);
        Checks.due("another", x.walks(0, 0, 1), 100);
        Checks.due("as told", x.ofPerson(0, 1, 1), 20);
        Checks.due("a beast is not LAME", x.rides(0, 0, 1), 24);
        x.lame(0, 1, 0);
        Checks.due("LAME from the first on", x.walks(0, 1, 1), 160);
        Checks.due("LAME at the first", x.walks(0, 1, 0), 90);
        Checks.due("walks", x.walks(0, 0, 2), RideTie.UNKNOWN);
        Checks.due("walks", x.walks(0, 0, -1), RideTie.UNKNOWN);
        Checks.due("walks", x.walks(0, 2, 0), RideTie.UNKNOWN);
        Checks.due("walks", x.walks(0, -1, 0), RideTie.UNKNOWN);
        Checks.due("walks", x.walks(1, 0, 0), RideTie.UNKNOWN);
        Checks.due("rides", x.rides(0, 0, 2), RideTie.UNKNOWN);
        Checks.due("rides", x.rides(0, 0, -1), RideTie.UNKNOWN);
        Checks.due("rides", x.rides(0, 1, 0), RideTie.UNKNOWN);
        Checks.due("rides", x.rides(0, -1, 0), RideTie.UNKNOWN);
        Checks.due("rides", x.rides(-1, 0, 0), RideTie.UNKNOWN);
    }

    private static void gone() {
        RideTie x = new RideTie();
        Checks.due("gone(12)", x.gone(12), 1);
        Checks.due("gone(13)", x.gone(13), RideTie.OUTSIDE);
        Checks.due("gone(-1)", x.gone(-1), RideTie.OUTSIDE);
        Checks.due("gone(0)", x.gone(0), 12);
        Checks.due("gone(5)", x.gone(5), 0);
    }
}
