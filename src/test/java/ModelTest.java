import java.util.List;

/** Promises 8, 9 and 11 to 25 on many thrown ROADS, against SlowModel. */
public final class ModelTest {

    public static void main(String[] args) {
        for (int seed = 0; seed < 1500; seed++) {
            plansOfOneRoad(new Dice(seed));
        }
        for (int seed = 0; seed < 300; seed++) {
            bestOfOneRoad(new Dice(seed));
        }
        Checks.end();
    }

    private static RideTie with(Text text) {
        RideTie x = new RideTie();
        if (Checks.read(x, text.codes) != 0) {
            Checks.due("road by " + text.codes, -1, 0);
        }
        return x;
    }

    private static void plansOfOneRoad(Dice dice) {
        Text text = Text.thrown(dice, 0);
        RideTie x = with(text);
        for (int q = 0; q < 4; q++) {
            int kind = text.miles.length == 1 ? 0 : dice.roll(3);
            int gate = kind == 0 ? 0 : dice.between(1, text.miles.length - 1);
            int minutes = kind == 2 ? dice.between(1, 60) : 0;
            int[] cells = cells(dice, text);
            Checks.due("plan", Checks.draw(x, kind, 0, gate, minutes, cells), q);
            int who = dice.roll(2) == 0 ? RideTie.NONE : dice.roll(text.people.length);
            int from = dice.roll(text.miles.length);
            x.lame(0, who, from);
            same(x, q, new SlowModel(text, cells, gate, minutes, who, from));
        }
    }

    /** Mostly such as are not WRONG: a beast is ridden as long as somebody goes on with it. */
    private static int[] cells(Dice dice, Text text) {
        int people = text.people.length;
        int[] cells = new int[text.miles.length * people];
        boolean[] isHere = {true, true};
        for (int k = 0; k < text.miles.length; k++) {
            int[] riders = new int[2];
            for (int p = 0; p < people; p++) {
                int b = dice.roll(text.beasts.length + 1) - 1;
                boolean isWild = dice.roll(60) == 0;
                if (b >= 0 && (isWild || isHere[b] && riders[b] < text.beasts[b][3])) {
                    cells[k * people + p] = b + 1;
                    riders[b]++;
                }
            }
            for (int b = 0; b < text.beasts.length; b++) {
                isHere[b] = isHere[b] && riders[b] > 0;
            }
        }
        return cells;
    }

    private static void same(RideTie x, int q, SlowModel model) {
        String name = model.text.codes + " by PLAN " + q;
        boolean isWrong = model.wrong() != RideTie.NONE;
        Checks.due("wrong of " + name, x.wrong(q), model.wrong());
        for (int what = 0; what < 5; what++) {
            Checks.due("outcome " + what + " of " + name, x.outcome(q, what), isWrong ? RideTie.STATE : model.outcome(what));
        }
        for (int gate = 0; gate <= model.pieces; gate++) {
            for (int p = 0; p < model.people; p++) {
                Checks.due("there of " + name, x.there(q, p, gate), isWrong ? RideTie.STATE : model.there[gate][p]);
                int went = gate == model.pieces ? RideTie.UNKNOWN : isWrong ? RideTie.STATE : model.went[gate][p];
                Checks.due("went of " + name, x.went(q, p, gate), went);
            }
            for (int b = 0; b < model.text.beasts.length; b++) {
                Checks.due("came of " + name, x.came(q, b, gate), isWrong ? RideTie.STATE : model.came[gate][b]);
            }
        }
        for (int p = 0; p < model.people; p++) {
            int walked = isWrong ? RideTie.STATE : model.walked(p, model.pieces - 1);
            Checks.due("walked of " + name, x.walked(q, p), walked);
        }
    }

    private static void bestOfOneRoad(Dice dice) {
        int pieces = dice.between(1, 6);
        int people = dice.between(1, 4);
        int beasts = dice.roll(8) == 0 ? 0 : dice.between(1, 2);
        double most = dice.roll(20) == 0 ? 65536 : 6000;
        while (Math.pow(beasts + 1, pieces * people) > most) {
            pieces = dice.between(1, 6);
            people = dice.between(1, 4);
        }
        Text text = Text.sized(dice, pieces, people, beasts);
        sameBest(text, RideTie.NONE, 0);
        sameBest(text, dice.roll(people), dice.roll(pieces));
    }

    /** An object on which BEST was asked for as long as nobody was LAME. */
    private static RideTie withLame(Text text, int who, int from) {
        RideTie x = with(text);
        x.rows(0);
        x.lame(0, who, from);
        return x;
    }

    private static void sameBest(Text text, int who, int from) {
        List<SlowModel> all = SlowModel.all(text, who, from);
        RideTie x = withLame(text, who, from);
        Checks.due("rows of " + text.codes, x.rows(0), all.size());
        int fewest = RideTie.NONE;
        SlowModel soonest = SlowModel.best(all, 0, RideTie.NONE);
        for (int t = 12; t >= 0; t--) {
            SlowModel best = SlowModel.best(all, 0, t);
            if (best != null && best.outcome(0) == soonest.outcome(0)) {
                fewest = t;
            }
        }
        Checks.due("fewest of " + text.codes, x.fewest(0), fewest);
        SlowModel fairest = SlowModel.best(all, 2, RideTie.NONE);
        int cost = soonest == null ? RideTie.NONE : fairest.outcome(0) - soonest.outcome(0);
        Checks.due("cost of " + text.codes, x.cost(0), cost);
        // no object is used for more than 512 calls
        int[][] most = {{RideTie.NONE, 0, 1, 2, 3, 4, 5}, {6, 7, 8, 9, 10, 11, 12}};
        for (int aim = 0; aim < 3; aim++) {
            for (int[] some : most) {
                RideTie y = withLame(text, who, from);
                for (int t : some) {
                    sameRow(y, text, aim, t, SlowModel.best(all, aim, t));
                }
            }
        }
    }

    private static void sameRow(RideTie x, Text text, int aim, int t, SlowModel best) {
        String name = "(" + aim + ", " + t + ") of " + text.codes;
        for (int what = 0; what < 4; what++) {
            Checks.due("best " + name, x.best(0, aim, t, what), best == null ? RideTie.NONE : best.outcome(what));
        }
        for (int k = 0; k < text.miles.length; k++) {
            for (int p = 0; p < text.people.length; p++) {
                Checks.due("row " + name, x.row(0, aim, t, k, p), best == null ? RideTie.NONE : best.does(k, p));
            }
        }
    }
}
