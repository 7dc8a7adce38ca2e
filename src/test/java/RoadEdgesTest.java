import java.util.Set;

/** "1 ROADS" of the document, sentence by sentence: the last that is let in and the first that is not. */
public final class RoadEdgesTest {
    private static final String PERSON = ";p1,1,1,1";
    private static final String BEAST = ";b1,1,1,1,1,9";

    public static void main(String[] args) {
        newObjectHasNothing();
        threeEver();
        wrongTextsTakeNoNumber();
        onePieceToSix();
        milesAndGrounds();
        onePersonToFour();
        noBeastToTwo();
        numbersOfPeople();
        numbersOfBeasts();
        numbersOfOneOrTwoDigits();
        onePersonAlone();
        theLongestText();
        allCodesButOne();
        endsTooSoon();
        fromACellOn();
        lanes();
        nobodyIsLameAtFirst();
        onePersonIsLame();
        lameFromEachPiece();
        eachRoadHasItsOwnLame();
        minutesAtTheirEnds();
        goneAtItsEnds();
        Checks.end();
    }

    private static void fault(String text, int place) {
        RideTie x = new RideTie();
        Checks.due("road by " + text, Checks.read(x, text), -100 - place);
        Checks.due("fault() behind " + text, x.fault(), 0);
        Checks.due("many(0) behind " + text, x.many(0), 0);
        Checks.due("ofRoad(0, 0) behind " + text, x.ofRoad(0, 0), RideTie.UNKNOWN);
    }

    private static RideTie fine(String text) {
        RideTie x = new RideTie();
        Checks.due("road by " + text, Checks.read(x, text), 0);
        Checks.due("many(0) behind " + text, x.many(0), 1);
        return x;
    }

    /** No ROADS, PLANS, SHEETS: each call by nothing but 0. */
    private static void newObjectHasNothing() {
        Set<String> unknown = Set.of("ofRoad", "ofPiece", "ofPerson", "ofBeast", "lame", "walks", "rides", "plan",
            "ofPlan", "does", "wrong", "there", "came", "went", "outcome", "walked", "best", "row", "cost", "fewest",
            "rows", "tell", "call", "as");
        Set<String> ofNothing = Set.of("road", "put", "copy");
        Set<String> lost = Set.of("safe", "even", "share", "cell");
        for (String name : Calls.NAMES) {
            RideTie x = new RideTie();
            long due = unknown.contains(name) ? RideTie.UNKNOWN : ofNothing.contains(name) ? -11
                : lost.contains(name) ? RideTie.LOST : name.equals("gone") || name.equals("sheet") ? 1 : 0;
            Checks.due(name + " of a new object", Calls.make(x, name, new int[8]), due);
            Checks.due("fault() behind " + name, x.fault(), ofNothing.contains(name) || name.equals("cell") ? 1 : 0);
            for (int what = 0; what < 4; what++) {
                Checks.due("many(" + what + ") behind " + name, x.many(what), 0);
            }
            Checks.due("trace() behind " + name, x.trace(), 0);
            Checks.due("gone() behind " + name, x.gone(1), name.equals("gone") ? 0 : 1);
            for (int k = 0; k < 4; k++) {
                Checks.due("lose() behind " + name, x.lose(k), k == 0 && name.equals("sheet") ? 1 : 0);
            }
        }
    }

    private static void threeEver() {
        RideTie x = new RideTie();
        String[] texts = {"m10" + PERSON, "m2010" + PERSON + PERSON + BEAST, "m30" + PERSON + BEAST + BEAST};
        for (int road = 0; road < 3; road++) {
            Checks.due("ofRoad of one to come", x.ofRoad(road, 0), RideTie.UNKNOWN);
            Checks.due("ROAD " + road, Checks.read(x, texts[road]), road);
            Checks.due("many(0)", x.many(0), road + 1);
        }
        Checks.due("a fourth", Checks.read(x, "m40" + PERSON + PERSON), RideTie.FULL);
        Checks.due("fault() behind FULL", x.fault(), 0);
        Checks.due("a fourth again", Checks.read(x, "m40" + PERSON), RideTie.FULL);
        Checks.due("FIRST FAULT comes ahead of FULL", Checks.read(x, "m40;p"), -105);
        Checks.due("INDEX comes ahead of FULL", x.road(1, 0, 0, 6), -13);
        Checks.due("SIZE comes ahead of FULL", x.road(1, 0, 0, -1), -14);
        Checks.due("CAST comes ahead of FULL", x.road(1, 1, 0, 5), -12);
        Checks.due("NULL comes ahead of FULL", x.road(2, 1, 0, 5), -11);
        Checks.due("LANE comes ahead of FULL", x.road(1, 3, 0, 5), RideTie.OUTSIDE);
        Checks.due("SHEET comes ahead of FULL", x.road(4, 0, 0, 5), RideTie.UNKNOWN);
        int[] due = {3, 0, 4, 3};
        for (int what = 0; what < 4; what++) {
            Checks.due("many(" + what + ")", x.many(what), due[what]);
        }
        Checks.due("ROAD 3", x.ofRoad(3, 0), RideTie.UNKNOWN);
        int[][] told = {{1, 1, 0, 1}, {2, 2, 1, 3}, {1, 1, 2, 3}};
        for (int road = 0; road < 3; road++) {
            for (int what = 0; what < 4; what++) {
                Checks.due("ofRoad(" + road + ", " + what + ")", x.ofRoad(road, what), told[road][what]);
            }
        }
    }

    private static void wrongTextsTakeNoNumber() {
        RideTie x = new RideTie();
        Checks.due("a wrong GROUND", Checks.read(x, "m123456;p60,59,58,57"), -104);
        Checks.due("too short", Checks.read(x, "m122130;p60,59,58,57;p1,2,3,4;b9,9,9,2,30"), -141);
        Checks.due("too short", Checks.read(x, "m122130;p60,59,58,57;p1,2,3,4;b9,9,9,2,30,"), -142);
        Checks.due("the first ROAD", Checks.read(x, "m41;p5,6,7,8"), 0);
        int[] due = {1, 1, 0, 4, RideTie.NONE, RideTie.NONE};
        for (int what = 0; what < 6; what++) {
            Checks.due("nothing is left of the wrong ones", x.ofRoad(0, what), due[what]);
        }
        int[] person = {5, 6, 7, 8};
        for (int what = 0; what < 4; what++) {
            Checks.due("ofPerson", x.ofPerson(0, 0, what), person[what]);
        }
        Checks.due("ofPiece", x.ofPiece(0, 0, 0), 4);
        Checks.due("ofPiece", x.ofPiece(0, 0, 1), 1);
        Checks.due("ofPiece", x.ofPiece(0, 1, 0), RideTie.UNKNOWN);
        Checks.due("ofPerson", x.ofPerson(0, 1, 0), RideTie.UNKNOWN);
        Checks.due("ofBeast", x.ofBeast(0, 0, 0), RideTie.UNKNOWN);
        Checks.due("wrong again", Checks.read(x, "m10;p0"), -105);
        Checks.due("the second ROAD", Checks.read(x, "m10" + PERSON), 1);
        Checks.due("the first is as it was", x.ofPiece(0, 0, 0), 4);
    }

    private static void onePieceToSix() {
        fault("m", 1);
        fault("m" + PERSON, 1);
        StringBuilder pieces = new StringBuilder("m");
        for (int k = 0; k < 6; k++) {
            pieces.append(k + 1).append(k % 3);
            RideTie x = fine(pieces + PERSON);
            Checks.due("PIECES", x.ofRoad(0, 0), k + 1);
            for (int piece = 0; piece <= k; piece++) {
                Checks.due("MILES", x.ofPiece(0, piece, 0), piece + 1);
                Checks.due("GROUND", x.ofPiece(0, piece, 1), piece % 3);
            }
            Checks.due("behind the last PIECE", x.ofPiece(0, k + 1, 0), RideTie.UNKNOWN);
            Checks.due("all MILES", x.ofRoad(0, 3), (k + 1) * (k + 2) / 2);
        }
        fault(pieces + "10" + PERSON, 13);
        fault(pieces + "1", 13);
        fault(pieces.toString(), 13);
        Checks.due("most MILES", fine("m909192909192" + PERSON).ofRoad(0, 3), 54);
        Checks.due("least MILES", fine("m10" + PERSON).ofRoad(0, 3), 1);
    }

    private static void milesAndGrounds() {
        for (int miles = 1; miles <= 9; miles++) {
            for (int ground = 0; ground <= 2; ground++) {
                RideTie x = fine("m" + miles + ground + PERSON);
                Checks.due("MILES", x.ofPiece(0, 0, 0), miles);
                Checks.due("GROUND", x.ofPiece(0, 0, 1), ground);
            }
            for (int ground = 3; ground <= 9; ground++) {
                fault("m" + miles + ground + PERSON, 2);
                fault("m10" + miles + ground + PERSON, 4);
            }
        }
        fault("m0", 1);
        fault("m00" + PERSON, 1);
        fault("m1000" + PERSON, 3);
        fault("m1;" + PERSON, 2);
        fault("m/0" + PERSON, 1);
        fault("m:0" + PERSON, 1);
        fault("m1/" + PERSON, 2);
    }

    private static void onePersonToFour() {
        fault("m10", 3);
        fault("m10;", 4);
        fault("m10" + BEAST, 4);
        StringBuilder text = new StringBuilder("m10");
        for (int people = 1; people <= 4; people++) {
            text.append(";p").append(people).append(",1,1,").append(people);
            RideTie x = fine(text.toString());
            Checks.due("PEOPLE", x.ofRoad(0, 1), people);
            Checks.due("many(2)", x.many(2), people);
            for (int p = 0; p < people; p++) {
                Checks.due("PACE", x.ofPerson(0, p, 0), p + 1);
                Checks.due("FAR", x.ofPerson(0, p, 3), p + 1);
            }
            Checks.due("behind the last PERSON", x.ofPerson(0, people, 0), RideTie.UNKNOWN);
        }
        int length = text.length();
        fault(text + ";p", length + 1);
        fault(text + PERSON, length + 1);
        fault(text + ";", length + 1);
        Checks.due("four and two", fine(text + BEAST + BEAST).ofRoad(0, 1), 4);
        fault(text + BEAST + PERSON, length + 14);
    }

    private static void noBeastToTwo() {
        String text = "m10" + PERSON;
        Checks.due("BEASTS", fine(text).ofRoad(0, 2), 0);
        Checks.due("no BEAST", fine(text).ofBeast(0, 0, 0), RideTie.UNKNOWN);
        Checks.due("no BEAST", fine(text).rides(0, 0, 0), RideTie.UNKNOWN);
        Checks.due("BEASTS", fine(text + BEAST).ofRoad(0, 2), 1);
        Checks.due("no second one", fine(text + BEAST).ofBeast(0, 1, 0), RideTie.UNKNOWN);
        RideTie x = fine(text + BEAST + ";b2,3,4,2,5,10");
        Checks.due("BEASTS", x.ofRoad(0, 2), 2);
        Checks.due("many(3)", x.many(3), 2);
        int[] second = {2, 3, 4, 2, 5, 10};
        for (int what = 0; what < 6; what++) {
            Checks.due("ofBeast(0, 1, " + what + ")", x.ofBeast(0, 1, what), second[what]);
        }
        Checks.due("no third one", x.ofBeast(0, 2, 0), RideTie.UNKNOWN);
        fault(text + BEAST + BEAST + BEAST, 12 + 26 + 1);
        fault(text + BEAST + BEAST + ";b", 12 + 26 + 1);
        fault(text + BEAST + PERSON, 12 + 13 + 1);
        fault(text + BEAST + ";p", 12 + 13 + 1);
        fault(text + BEAST + BEAST + ";p", 12 + 26 + 1);
        fault(text + BEAST + ";", 12 + 13 + 1);
        fault(text + BEAST + ";b", 12 + 13 + 2);
    }

    /** The text with one number of a PERSON or a BEAST put in its place. */
    private static String with(String ahead, String[] numbers, int j, String number) {
        StringBuilder text = new StringBuilder(ahead);
        for (int i = 0; i < numbers.length; i++) {
            text.append(i == 0 ? "" : ",").append(i == j ? number : numbers[i]);
        }
        return text.toString();
    }

    private static int placeOf(String ahead, String[] numbers, int j) {
        int place = ahead.length();
        for (int i = 0; i < j; i++) {
            place += numbers[i].length() + 1;
        }
        return place;
    }

    /** As it stands, at the end of the TEXT, too: its first digit. */
    private static void isNotTold(String ahead, String[] numbers, int j, String number) {
        String text = with(ahead, numbers, j, number);
        int place = placeOf(ahead, numbers, j);
        fault(text, place);
        fault(text + BEAST, place);
        fault(text.substring(0, place + number.length()), place);
        fault(text.substring(0, place + number.length()) + "x", place);
        fault(text.substring(0, place + number.length()) + ";", place);
        fault(text.substring(0, place + number.length()) + ",", place);
    }

    private static RideTie isTold(String ahead, String[] numbers, int j, String number) {
        String text = with(ahead, numbers, j, number);
        int place = placeOf(ahead, numbers, j);
        if (j < numbers.length - 1) {
            // it just ends too soon
            fault(text.substring(0, place + number.length()), place + number.length());
            fault(text.substring(0, place + number.length()) + ",", place + number.length() + 1);
            fault(text.substring(0, place + number.length()) + ";", place + number.length());
        }
        return fine(text);
    }

    private static void numbersOfPeople() {
        String[] numbers = {"5", "16", "7", "18"};
        String[] aheads = {"m10;p", "m10" + PERSON + PERSON + PERSON + ";p"};
        for (int who = 0; who < 2; who++) {
            String ahead = aheads[who];
            int p = who * 3;
            for (int pace = 0; pace < 3; pace++) {
                for (String number : new String[] {"1", "01", "9", "09", "10", "59", "60"}) {
                    RideTie x = isTold(ahead, numbers, pace, number);
                    Checks.due("PACE", x.ofPerson(0, p, pace), Integer.parseInt(number));
                }
                for (String number : new String[] {"0", "00", "61", "69", "70", "99"}) {
                    isNotTold(ahead, numbers, pace, number);
                }
            }
            for (String number : new String[] {"0", "00", "1", "01", "60", "61", "98", "99"}) {
                RideTie x = isTold(ahead, numbers, 3, number);
                Checks.due("FAR", x.ofPerson(0, p, 3), Integer.parseInt(number));
            }
        }
    }

    private static void numbersOfBeasts() {
        String[] numbers = {"5", "16", "7", "1", "8", "19"};
        String[][] told = {{"1", "01", "60"}, {"1", "01", "60"}, {"1", "01", "60"}, {"1", "2", "01", "02"},
            {"0", "00", "1", "01", "29", "30"}, {"9", "09", "10", "98", "99"}};
        String[][] notTold = {{"0", "00", "61", "99"}, {"0", "00", "61", "99"}, {"0", "00", "61", "99"},
            {"0", "00", "3", "03", "9", "10", "12", "20", "99"}, {"31", "39", "40", "99"}, {"0", "00", "1", "8", "08"}};
        String[] aheads = {"m10" + PERSON + ";b", "m10" + PERSON + BEAST + ";b"};
        for (int b = 0; b < 2; b++) {
            for (int j = 0; j < 6; j++) {
                for (String number : told[j]) {
                    RideTie x = isTold(aheads[b], numbers, j, number);
                    Checks.due("ofBeast(0, " + b + ", " + j + ")", x.ofBeast(0, b, j), Integer.parseInt(number));
                }
                for (String number : notTold[j]) {
                    isNotTold(aheads[b], numbers, j, number);
                }
            }
        }
    }

    private static void numbersOfOneOrTwoDigits() {
        String[] person = {"5", "16", "7", "18"};
        String[] beast = {"5", "16", "7", "1", "8", "19"};
        for (int j = 0; j < 4; j++) {
            int place = placeOf("m10;p", person, j);
            fault(with("m10;p", person, j, ""), place);
            fault(with("m10;p", person, j, "x"), place);
            fault(with("m10;p", person, j, "-1"), place);
            fault(with("m10;p", person, j, "123"), place + 2);
            fault(with("m10;p", person, j, "012"), place + 2);
            fault(with("m10;p", person, j, "1x"), place + 1);
        }
        for (int j = 0; j < 6; j++) {
            int place = placeOf("m10" + PERSON + ";b", beast, j);
            fault(with("m10" + PERSON + ";b", beast, j, ""), place);
            fault(with("m10" + PERSON + ";b", beast, j, ";"), place);
            String two = j == 3 ? "02" : j == 5 ? "99" : "30";
            fault(with("m10" + PERSON + ";b", beast, j, two + "0"), place + 2);
            fault(with("m10" + PERSON + ";b", beast, j, two + " "), place + 2);
        }
    }

    private static void onePersonAlone() {
        fault("m10;p1,1,1", 10);
        fault("m10;p1,1,1;", 10);
        fault("m10;p1,1,1,1,", 12);
        fault("m10;p1,1,1,1,1", 12);
        fault("m10" + PERSON + ";b1,1,1,1,1", 12 + 11);
        fault("m10" + PERSON + ";b1,1,1,1,1;", 12 + 11);
        fault("m10" + PERSON + BEAST + ",", 12 + 13);
        fault("m10" + PERSON + BEAST + ",1", 12 + 13);
        fault("m10" + PERSON + " ", 12);
        fault(" m10" + PERSON, 0);
        fault(PERSON, 0);
        fault(";m10" + PERSON, 0);
        fault("10" + PERSON, 0);
        fault("mm10" + PERSON, 1);
        fault("m10p1,1,1,1", 3);
        fault("m10;;p1,1,1,1", 4);
        fault("m10;m10" + PERSON, 4);
        fault("m10;P1,1,1,1", 4);
    }

    private static void theLongestText() {
        String person = ";p60,59,58,99";
        String text = "m919293919293".replace('3', '0') + person + person + person + person
            + ";b60,59,58,02,30,99;b57,56,55,01,29,98";
        Checks.due("so many codes", text.length(), 103);
        RideTie x = fine(text);
        Checks.due("its last number", x.ofBeast(0, 1, 5), 98);
        Checks.due("its last PERSON", x.ofPerson(0, 3, 3), 99);
        // as many cells as a SHEET can have
        fault(text + ";b" + "1".repeat(15), 104);
        fault("m".repeat(120), 1);
        RideTie y = new RideTie();
        int[] cells = new int[120];
        System.arraycopy(Checks.codes("m10" + PERSON), 0, cells, 108, 12);
        Checks.write(y, 2, 1, cells);
        Checks.due("up to the last cell", y.road(2, 1, 108, 12), 0);
        Checks.due("beyond it", y.road(2, 1, 108, 13), -13);
        Checks.due("nothing behind it", y.road(2, 1, 120, 0), -100);
        Checks.due("beyond it", y.road(2, 1, 121, 0), -13);
        Checks.due("all of them", y.road(2, 1, 0, 120), -100);
    }

    /** Wherever a code is of no TEXT, that is its place. */
    private static void allCodesButOne() {
        String text = "m3041;p20,5,30,99;p5,20,40,5;b5,6,19,1,3,9;b1,2,3,2,0,99";
        for (int i = 0; i < text.length(); i++) {
            fault(text.substring(0, i) + "x" + text.substring(i + 1), i);
            fault(text.substring(0, i) + (char) 0 + text.substring(i + 1), i);
            fault(text.substring(0, i) + "q" + text.substring(i), i);
        }
        fault(text + "x", text.length());
    }

    private static void endsTooSoon() {
        String text = "m3041;p20,25,30,99;p15,20,40,5;b50,60,9,1,30,99";
        for (int n = 0; n < text.length(); n++) {
            boolean isWhole = n == 18 || n == 17 || n == 30 || n == text.length() - 1;
            if (isWhole) {
                fine(text.substring(0, n));
            } else {
                fault(text.substring(0, n), n);
            }
        }
    }

    private static void fromACellOn() {
        RideTie x = new RideTie();
        String text = "m10" + PERSON;
        Checks.write(x, 0, 0, Checks.codes("9" + text + "0"));
        Checks.due("n codes from 1 on", x.road(0, 0, 1, 12), 0);
        Checks.due("FAR", x.ofPerson(0, 0, 3), 1);
        Checks.due("one more", x.road(0, 0, 1, 13), 1);
        Checks.due("FAR", x.ofPerson(1, 0, 3), 10);
        Checks.due("one fewer: the place is told from i on", x.road(0, 0, 1, 11), -111);
        Checks.due("from 0 on", x.road(0, 0, 0, 13), -100);
        Checks.due("from 2 on", x.road(0, 0, 2, 11), -100);
        x.put(0, 1, 'p');
        x.sheet(0, 2, 0);
        x.lose(0);
        Checks.due("it stays as its SHEET goes", x.ofPerson(1, 0, 3), 10);
    }

    private static void lanes() {
        for (int lane = 0; lane < 3; lane++) {
            RideTie x = new RideTie();
            Checks.write(x, 1, lane, Checks.codes("m10" + PERSON));
            for (int other = 0; other < 3; other++) {
                Checks.due("LANE " + lane + " as " + other, x.road(1, other, 0, 12), other == lane ? 0 : -12);
                Checks.due("fault()", x.fault(), other == lane ? 0 : 2);
            }
        }
        int[] wide = Checks.codes("m10" + PERSON);
        wide[0] += 65536;
        RideTie shorts = new RideTie();
        Checks.write(shorts, 1, 1, wide);
        Checks.due("cut to a short as it came", shorts.road(1, 1, 0, 12), 0);
        RideTie ints = new RideTie();
        Checks.write(ints, 1, 2, wide);
        Checks.due("not cut", ints.road(1, 2, 0, 12), -100);
        wide[0] += 256 - 65536;
        RideTie bytes = new RideTie();
        Checks.write(bytes, 1, 0, wide);
        Checks.due("cut to a byte as it came", bytes.road(1, 0, 0, 12), 0);
        Checks.write(shorts, 1, 1, wide);
        Checks.due("not cut", shorts.road(1, 1, 0, 12), -100);
    }

    private static void lameIs(RideTie x, int road, int who, int from) {
        Checks.due("who is LAME", x.ofRoad(road, 4), who);
        Checks.due("from which PIECE on", x.ofRoad(road, 5), from);
    }

    private static void nobodyIsLameAtFirst() {
        RideTie x = fine("m10" + PERSON);
        lameIs(x, 0, RideTie.NONE, RideTie.NONE);
        for (int k : new int[] {0, -1, 1, 77, RideTie.NONE, Integer.MAX_VALUE, Integer.MIN_VALUE}) {
            Checks.due("nobody, PIECE " + k + " is not looked at", x.lame(0, RideTie.NONE, k), 0);
        }
        Checks.due("lame(0, 0, 0)", x.lame(0, 0, 0), 1);
        Checks.due("it was so", x.lame(0, 0, 0), 0);
        lameIs(x, 0, 0, 0);
        Checks.due("nobody", x.lame(0, RideTie.NONE, Integer.MIN_VALUE), 1);
        lameIs(x, 0, RideTie.NONE, RideTie.NONE);
        Checks.due("nobody: it was so", x.lame(0, RideTie.NONE, 0), 0);
    }

    private static void onePersonIsLame() {
        RideTie x = fine("m1020;p10,1,1,1;p20,1,1,1;p30,1,1,1;p40,1,1,1");
        for (int p = 3; p >= 0; p--) {
            Checks.due("PERSON " + p, x.lame(0, p, 1), 1);
            lameIs(x, 0, p, 1);
            for (int other = 0; other < 4; other++) {
                Checks.due("walks ahead of it", x.walks(0, other, 0), 10 * (other + 1));
                Checks.due("walks from it on", x.walks(0, other, 1), 20 * (other + 1) * (other == p ? 2 : 1));
            }
        }
        Checks.due("its PACES are as told", x.ofPerson(0, 0, 0), 10);
        Checks.due("the same from another PIECE on", x.lame(0, 0, 0), 1);
        Checks.due("it was so", x.lame(0, 0, 0), 0);
        lameIs(x, 0, 0, 0);
    }

    private static void lameFromEachPiece() {
        RideTie x = fine("m101112101112;p7,8,9,99;b3,4,5,1,0,9");
        int[] paces = {7, 8, 9, 7, 8, 9};
        for (int from = 0; from < 6; from++) {
            Checks.due("LAME from " + from + " on", x.lame(0, 0, from), 1);
            for (int k = 0; k < 6; k++) {
                Checks.due("walks", x.walks(0, 0, k), paces[k] * (k >= from ? 2 : 1));
                Checks.due("rides", x.rides(0, 0, k), paces[k] - 4);
            }
        }
        Checks.due("from no PIECE on", x.lame(0, 0, 6), RideTie.UNKNOWN);
        lameIs(x, 0, 0, 5);
    }

    private static void eachRoadHasItsOwnLame() {
        RideTie x = fine("m10;p10,1,1,1");
        Checks.due("ROAD 1", Checks.read(x, "m10;p10,1,1,1"), 1);
        Checks.due("lame(1, 0, 0)", x.lame(1, 0, 0), 1);
        lameIs(x, 0, RideTie.NONE, RideTie.NONE);
        lameIs(x, 1, 0, 0);
        Checks.due("walks", x.walks(0, 0, 0), 10);
        Checks.due("walks", x.walks(1, 0, 0), 20);
        Checks.due("ROAD 2", Checks.read(x, "m10;p10,1,1,1"), 2);
        lameIs(x, 2, RideTie.NONE, RideTie.NONE);
        Checks.due("lame(0, 0, 0)", x.lame(0, 0, 0), 1);
        Checks.due("nobody on ROAD 1", x.lame(1, RideTie.NONE, 0), 1);
        lameIs(x, 0, 0, 0);
    }

    private static void minutesAtTheirEnds() {
        RideTie x = fine("m909192101112;p60,60,60,99;p1,1,1,99;b60,60,60,1,0,9;b1,2,3,1,0,9");
        Checks.due("most", x.walks(0, 0, 2), 540);
        Checks.due("least", x.walks(0, 1, 3), 1);
        Checks.due("most", x.rides(0, 0, 0), 540);
        Checks.due("least", x.rides(0, 1, 3), 1);
        Checks.due("by GROUND", x.rides(0, 1, 4), 2);
        Checks.due("by GROUND", x.rides(0, 1, 5), 3);
        Checks.due("by GROUND and MILES", x.rides(0, 1, 2), 27);
        x.lame(0, 0, 0);
        Checks.due("LAME", x.walks(0, 0, 2), 1080);
        Checks.due("not LAME", x.walks(0, 1, 2), 9);
    }

    private static void goneAtItsEnds() {
        RideTie x = new RideTie();
        Checks.due("1 at first", x.gone(0), 1);
        for (int v = 1; v <= 12; v++) {
            Checks.due("what it was", x.gone(v), v - 1);
        }
        Checks.due("13", x.gone(13), RideTie.OUTSIDE);
        Checks.due("-1", x.gone(-1), RideTie.OUTSIDE);
        Checks.due("what it was", x.gone(12), 12);
        Checks.due("the same again", x.gone(12), 12);
    }
}
