import java.util.ArrayList;
import java.util.List;
import java.util.Set;
import java.util.TreeSet;

/**
 * The second and third part of the document a second time, written from its words in another way than
 * the program: by looking back over the whole row again and again.
 */
final class SlowModel {
    static final int NONE = RideTie.NONE;

    final Text text;
    final int[] cells;
    final int meeting;
    final int rest;
    final int lamePerson;
    final int lameFrom;
    final int pieces;
    final int people;
    final int[][] there;
    final int[][] went;
    final int[][] came;

    SlowModel(Text text, int[] cells, int meeting, int rest, int lamePerson, int lameFrom) {
        this.text = text;
        this.cells = cells;
        this.meeting = meeting;
        this.rest = rest;
        this.lamePerson = lamePerson;
        this.lameFrom = lameFrom;
        pieces = text.miles.length;
        people = text.people.length;
        there = new int[pieces + 1][people];
        went = new int[pieces + 1][people];
        came = new int[pieces + 1][text.beasts.length];
        if (wrong() == NONE) {
            go();
        }
    }

    int does(int k, int p) {
        return cells[k * people + p];
    }

    Set<Integer> riders(int k, int b) {
        Set<Integer> riders = new TreeSet<>();
        for (int p = 0; p < people && k >= 0 && k < pieces; p++) {
            if (does(k, p) == b + 1) {
                riders.add(p);
            }
        }
        return riders;
    }

    int wrong() {
        for (int k = 0; k < pieces; k++) {
            for (int p = 0; p < people; p++) {
                int why = why(k, p);
                if (why != 0) {
                    return 100 * k + 10 * p + why;
                }
            }
        }
        return NONE;
    }

    private int why(int k, int p) {
        if (does(k, p) == 0) {
            return walked(p, k) > text.people[p][3] ? 3 : 0;
        }
        int b = does(k, p) - 1;
        for (int earlier = 0; earlier < k; earlier++) {
            if (riders(earlier, b).isEmpty()) {
                return 1;
            }
        }
        int ahead = 0;
        for (int other : riders(k, b)) {
            ahead += other < p ? 1 : 0;
        }
        return ahead >= text.beasts[b][3] ? 2 : 0;
    }

    /** Up to PIECE k, with it. */
    int walked(int p, int k) {
        int sum = 0;
        for (int earlier = 0; earlier <= k; earlier++) {
            sum += does(earlier, p) == 0 ? text.miles[earlier] : 0;
        }
        return sum;
    }

    /** Whether BEAST b stands at a GATE at which it is ridden on. */
    private boolean stands(int b, int gate) {
        if (gate == 0) {
            return false;
        }
        if (!riders(gate, b).equals(riders(gate - 1, b))) {
            return true;
        }
        int miles = text.miles[gate];
        int back = gate;
        do {
            back--;
            miles += text.miles[back];
        } while (!stands(b, back) && back > 0);
        return miles > text.beasts[b][5];
    }

    private void go() {
        for (int k = 0; k < pieces; k++) {
            for (int p = 0; p < people; p++) {
                if (does(k, p) == 0) {
                    int pace = text.people[p][text.grounds[k]];
                    boolean isLame = p == lamePerson && k >= lameFrom;
                    went[k][p] = there[k][p];
                    there[k + 1][p] = went[k][p] + text.miles[k] * pace * (isLame ? 2 : 1);
                }
            }
            for (int b = 0; b < text.beasts.length; b++) {
                ride(k, b);
            }
            if (meeting == k + 1) {
                int last = 0;
                for (int p = 0; p < people; p++) {
                    last = Math.max(last, there[k + 1][p]);
                }
                for (int p = 0; p < people; p++) {
                    there[k + 1][p] = last + rest;
                }
            }
        }
    }

    private void ride(int k, int b) {
        Set<Integer> riders = riders(k, b);
        came[k + 1][b] = NONE;
        if (riders.isEmpty()) {
            return;
        }
        int start = came[k][b] + (stands(b, k) ? text.beasts[b][4] : 0);
        for (int p : riders) {
            start = Math.max(start, there[k][p]);
        }
        came[k + 1][b] = start + text.miles[k] * text.beasts[b][text.grounds[k]];
        for (int p : riders) {
            went[k][p] = start;
            there[k + 1][p] = came[k + 1][b];
        }
    }

    int outcome(int what) {
        int last = 0;
        int first = Integer.MAX_VALUE;
        int most = 0;
        for (int p = 0; p < people; p++) {
            last = Math.max(last, there[pieces][p]);
            first = Math.min(first, there[pieces][p]);
            most = Math.max(most, walked(p, pieces - 1));
        }
        switch (what) {
            case 0: return last;
            case 1: return first;
            case 2: return most;
            case 3: return ties(false);
            default: return ties(true);
        }
    }

    private int ties(boolean aloneOnly) {
        int count = 0;
        for (int b = 0; b < text.beasts.length; b++) {
            for (int gate = 1; gate < pieces; gate++) {
                Set<Integer> before = riders(gate - 1, b);
                Set<Integer> after = riders(gate, b);
                boolean isTie = !before.isEmpty() && !before.equals(after);
                boolean isAlone = isTie && !after.isEmpty() && went[gate][after.iterator().next()] > came[gate][b];
                count += (aloneOnly ? isAlone : isTie) ? 1 : 0;
            }
        }
        return count;
    }

    /** All rows of a ROAD that are not WRONG, in their order. */
    static List<SlowModel> all(Text text, int lamePerson, int lameFrom) {
        List<SlowModel> all = new ArrayList<>();
        int[] cells = new int[text.miles.length * text.people.length];
        boolean isMore = true;
        while (isMore) {
            SlowModel row = new SlowModel(text, cells.clone(), 0, 0, lamePerson, lameFrom);
            if (row.wrong() == NONE) {
                all.add(row);
            }
            int place = cells.length - 1;
            while (place >= 0 && cells[place] == text.beasts.length) {
                cells[place] = 0;
                place--;
            }
            isMore = place >= 0;
            if (isMore) {
                cells[place]++;
            }
        }
        return all;
    }

    /** Null: there is none. */
    static SlowModel best(List<SlowModel> all, int aim, int t) {
        SlowModel best = null;
        for (SlowModel row : all) {
            if (t != NONE && row.outcome(3) > t) {
                continue;
            }
            if (best == null || row.outcome(aim) < best.outcome(aim)
                || row.outcome(aim) == best.outcome(aim) && row.outcome(0) < best.outcome(0)) {
                best = row;
            }
        }
        return best;
    }
}
