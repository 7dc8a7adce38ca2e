/** What the tests share: counting answers that are not due, and short ways to make ROADS and PLANS. */
final class Checks {
    static final String TWO_AND_ONE = "m3041;p20,25,30,99;p15,20,40,5;b5,6,9,1,3,9";

    private static int right = 0;
    private static int wrong = 0;

    private Checks() {
    }

    static void due(String call, long got, long want) {
        if (got == want) {
            right++;
        } else {
            wrong++;
            System.out.println(call + " answered " + got + ", due is " + want);
        }
    }

    static void hold(String what, boolean holds) {
        due(what, holds ? 1 : 0, 1);
    }

    static void end() {
        System.out.println(right + " answers as due, " + wrong + " not");
        if (wrong != 0 || right == 0) {
            System.exit(1);
        }
    }

    static void write(RideTie x, int sheet, int lane, int... cells) {
        x.sheet(sheet, lane, cells.length);
        for (int i = 0; i < cells.length; i++) {
            if (cells[i] != 0) {
                x.put(sheet, i, cells[i]);
            }
        }
    }

    static int[] codes(String text) {
        int[] codes = new int[text.length()];
        for (int i = 0; i < codes.length; i++) {
            codes[i] = text.charAt(i);
        }
        return codes;
    }

    /** What road() answers to a text, written to SHEET 1. */
    static int read(RideTie x, String text) {
        write(x, 1, 0, codes(text));
        return x.road(1, 0, 0, text.length());
    }

    static RideTie with(String text) {
        RideTie x = new RideTie();
        due("road by " + text, read(x, text), 0);
        return x;
    }

    /** What plan() answers to cells, written to SHEET 2. */
    static int draw(RideTie x, int kind, int road, int gate, int minutes, int... cells) {
        write(x, 2, 2, cells);
        return x.plan(kind, road, gate, minutes, 2, 2, 0, cells.length);
    }

    /** A new object with a ROAD 0 and a PLAN 0 of it. */
    static RideTie planned(String text, int... cells) {
        RideTie x = with(text);
        due("plan", draw(x, 0, 0, 0, 0, cells), 0);
        return x;
    }
}
