import java.math.BigInteger;
import java.util.ArrayList;
import java.util.HashMap;
import java.util.List;
import java.util.Map;
import java.util.Set;
import java.util.TreeSet;

/** What the document tells, a second time: any call by its name, with its refusals, FAULTS and changes. */
final class Told {
    private static final Set<String> NAME_FAULTS = Set.of("road", "plan", "sheet", "put", "cell", "copy", "as");
    private static final Set<String> LONG = Set.of("safe", "even", "share", "cell");
    private static final int UNKNOWN = -1;
    private static final int OUTSIDE = -2;
    private static final int STATE = -3;
    private static final int FULL = -4;
    private static final int NONE = -9;

    private final List<Way> ways = new ArrayList<>();
    private final List<Drawn> plans = new ArrayList<>();
    private final Map<Integer, int[]> rows = new HashMap<>();
    private final Map<Integer, Integer> lanes = new HashMap<>();
    private int gone = 1;
    private BigInteger trace = BigInteger.ZERO;
    private int fault = 0;

    /** A ROAD and who is LAME on it. */
    private static final class Way {
        final Text text;
        int who = NONE;
        int from = NONE;
        private final Map<String, List<SlowModel>> all = new HashMap<>();

        Way(Text text) {
            this.text = text;
        }

        List<SlowModel> rows() {
            return all.computeIfAbsent(who + " " + from, it -> SlowModel.all(text, who, from));
        }

        boolean hasManyRows() {
            return Math.pow(text.beasts.length + 1, text.people.length * text.miles.length) > 65536;
        }

        int allMiles() {
            int sum = 0;
            for (int miles : text.miles) {
                sum += miles;
            }
            return sum;
        }
    }

    private record Drawn(int kind, int road, int gate, int minutes, int[] cells) {
    }

    /** A call that is refused, or that comes to a FAULT. */
    private static final class Refused extends RuntimeException {
        private static final long serialVersionUID = 1;
        final int answer;

        Refused(int answer) {
            super(null, null, false, false);
            this.answer = answer;
        }
    }

    long answer(String name, int... a) {
        int before = fault;
        fault = NAME_FAULTS.contains(name) ? 0 : before;
        try {
            return go(name, a);
        } catch (Refused refused) {
            fault = NAME_FAULTS.contains(name) && refused.answer <= -11 ? -10 - refused.answer : fault;
            return LONG.contains(name) ? RideTie.LOST : refused.answer;
        }
    }

    private static void need(boolean holds, int answer) {
        if (!holds) {
            throw new Refused(answer);
        }
    }

    private static boolean within(int v, int low, int high) {
        return low <= v && v <= high;
    }

    private Way way(int x) {
        need(within(x, 0, ways.size() - 1), UNKNOWN);
        return ways.get(x);
    }

    private Drawn drawn(int q) {
        need(within(q, 0, plans.size() - 1), UNKNOWN);
        return plans.get(q);
    }

    private static void piece(Way way, int k) {
        need(within(k, 0, way.text.miles.length - 1), UNKNOWN);
    }

    private static void person(Way way, int p) {
        need(within(p, 0, way.text.people.length - 1), UNKNOWN);
    }

    private static void beast(Way way, int b) {
        need(within(b, 0, way.text.beasts.length - 1), UNKNOWN);
    }

    private static void gate(Way way, int gate) {
        need(within(gate, 0, way.text.miles.length), UNKNOWN);
    }

    private static void what(int what, int most) {
        need(within(what, 0, most), OUTSIDE);
    }

    private static void sheet(int k) {
        need(within(k, 0, 3), UNKNOWN);
    }

    private int[] cells(int k, int lane, int i, int n) {
        need(!rows.containsKey(k) || lanes.get(k) == lane, -12);
        need(rows.containsKey(k), -11);
        need(n >= 0, -14);
        need(i >= 0 && (long) i + n <= rows.get(k).length, -13);
        int[] cells = new int[n];
        for (int j = 0; j < n; j++) {
            cells[j] = rows.get(k)[i + j];
        }
        return cells;
    }

    private long go(String name, int[] a) {
        switch (name) {
            case "road": return road(a);
            case "ofRoad": return ofRoad(way(a[0]), a[1]);
            case "ofPiece":
                piece(way(a[0]), a[1]);
                what(a[2], 1);
                return (a[2] == 0 ? way(a[0]).text.miles : way(a[0]).text.grounds)[a[1]];
            case "ofPerson":
                person(way(a[0]), a[1]);
                what(a[2], 3);
                return way(a[0]).text.people[a[1]][a[2]];
            case "ofBeast":
                beast(way(a[0]), a[1]);
                what(a[2], 5);
                return way(a[0]).text.beasts[a[1]][a[2]];
            case "lame": return lame(way(a[0]), a[1], a[2]);
            case "walks":
                person(way(a[0]), a[1]);
                piece(way(a[0]), a[2]);
                return walks(way(a[0]), a[1], a[2]);
            case "rides":
                beast(way(a[0]), a[1]);
                piece(way(a[0]), a[2]);
                return way(a[0]).text.miles[a[2]] * way(a[0]).text.beasts[a[1]][way(a[0]).text.grounds[a[2]]];
            case "gone":
                what(a[0], 12);
                int was = gone;
                gone = a[0];
                return was;
            case "plan": return plan(a);
            case "ofPlan":
                Drawn plan = drawn(a[0]);
                what(a[1], 3);
                return new int[] {plan.kind, plan.road, plan.gate, plan.minutes}[a[1]];
            case "does":
                piece(way(drawn(a[0]).road), a[1]);
                person(way(drawn(a[0]).road), a[2]);
                return model(a[0]).does(a[1], a[2]);
            default: return goOn(name, a);
        }
    }

    private long goOn(String name, int[] a) {
        switch (name) {
            case "wrong":
                drawn(a[0]);
                return model(a[0]).wrong();
            case "there":
                person(way(drawn(a[0]).road), a[1]);
                gate(way(drawn(a[0]).road), a[2]);
                return right(a[0]).there[a[2]][a[1]];
            case "came":
                beast(way(drawn(a[0]).road), a[1]);
                gate(way(drawn(a[0]).road), a[2]);
                return right(a[0]).came[a[2]][a[1]];
            case "went":
                person(way(drawn(a[0]).road), a[1]);
                piece(way(drawn(a[0]).road), a[2]);
                return right(a[0]).went[a[2]][a[1]];
            case "outcome":
                drawn(a[0]);
                what(a[1], 4);
                return right(a[0]).outcome(a[1]);
            case "walked":
                person(way(drawn(a[0]).road), a[1]);
                return right(a[0]).walked(a[1], right(a[0]).pieces - 1);
            case "safe":
                drawn(a[0]);
                what(a[1], 1);
                int alone = right(a[0]).outcome(4);
                return least(BigInteger.valueOf(12 - gone).pow(alone), BigInteger.valueOf(12).pow(alone), a[1]);
            case "best": return best(a);
            case "row": return row(a);
            case "cost":
                SlowModel fairest = best(way(a[0]), 2, NONE);
                return fairest == null ? NONE : fairest.outcome(0) - best(way(a[0]), 0, NONE).outcome(0);
            case "fewest": return fewest(way(a[0]));
            case "rows":
                best(way(a[0]), 0, NONE);
                return way(a[0]).rows().size();
            case "even":
            case "share": return even(name, a);
            default: return goFarther(name, a);
        }
    }

    private long goFarther(String name, int[] a) {
        switch (name) {
            case "sheet":
                sheet(a[0]);
                what(a[1], 2);
                need(a[2] <= 120, OUTSIDE);
                need(a[2] >= 0, -14);
                rows.put(a[0], new int[a[2]]);
                lanes.put(a[0], a[1]);
                return 1;
            case "lose":
                sheet(a[0]);
                lanes.remove(a[0]);
                return rows.remove(a[0]) == null ? 0 : 1;
            case "put":
                sheet(a[0]);
                need(rows.containsKey(a[0]), -11);
                need(within(a[1], 0, rows.get(a[0]).length - 1), -13);
                int bits = 32 - (8 << lanes.get(a[0]));
                rows.get(a[0])[a[1]] = a[2] << bits >> bits;
                return 1;
            case "cell":
                sheet(a[0]);
                what(a[2], 2);
                return cells(a[0], a[2], a[1], 1)[0];
            case "copy": return copy(a);
            case "tell": return tell(drawn(a[0]));
            case "call":
                leave(drawn(a[0]).kind == 2 ? 5 : 4);
                return drawn(a[0]).kind == 2 ? 60 : a[0];
            case "as":
                drawn(a[0]);
                what(a[1], 2);
                need(a[1] <= drawn(a[0]).kind, -12);
                return 1;
            case "trace": return trace.intValue();
            case "fault": return fault;
            default: return many(a[0]);
        }
    }

    private long road(int[] a) {
        sheet(a[0]);
        what(a[1], 2);
        StringBuilder codes = new StringBuilder();
        for (int cell : cells(a[0], a[1], a[2], a[3])) {
            codes.append(cell > 32 && cell < 127 ? (char) cell : '?');
        }
        int place = FirstFault.of(codes.toString());
        if (place >= 0) {
            return -100 - place;
        }
        need(ways.size() < 3, FULL);
        ways.add(new Way(Text.of(codes.toString())));
        return ways.size() - 1;
    }

    private static long ofRoad(Way way, int what) {
        what(what, 5);
        return new int[] {way.text.miles.length, way.text.people.length, way.text.beasts.length, way.allMiles(), way.who,
            way.from}[what];
    }

    private static long lame(Way way, int p, int k) {
        if (p != NONE) {
            person(way, p);
            piece(way, k);
        }
        boolean wasSo = way.who == p && (p == NONE || way.from == k);
        way.who = p;
        way.from = p == NONE ? NONE : k;
        return wasSo ? 0 : 1;
    }

    private static long walks(Way way, int p, int k) {
        int minutes = way.text.miles[k] * way.text.people[p][way.text.grounds[k]];
        return way.who == p && way.from <= k ? minutes + minutes : minutes;
    }

    private long plan(int[] a) {
        sheet(a[4]);
        Way way = way(a[1]);
        what(a[0], 2);
        what(a[5], 2);
        need(a[0] == 0 ? a[2] == 0 : within(a[2], 1, way.text.miles.length - 1), OUTSIDE);
        need(a[0] < 2 ? a[3] == 0 : within(a[3], 1, 60), OUTSIDE);
        int[] cells = cells(a[4], a[5], a[6], a[7]);
        need(cells.length == way.text.miles.length * way.text.people.length, OUTSIDE);
        for (int cell : cells) {
            need(within(cell, 0, way.text.beasts.length), UNKNOWN);
        }
        need(plans.size() < 10, FULL);
        plans.add(new Drawn(a[0], a[1], a[2], a[3], cells));
        return plans.size() - 1;
    }

    private SlowModel model(int q) {
        Drawn plan = drawn(q);
        Way way = way(plan.road);
        return new SlowModel(way.text, plan.cells, plan.gate, plan.minutes, way.who, way.from);
    }

    private SlowModel right(int q) {
        SlowModel model = model(q);
        need(model.wrong() == NONE, STATE);
        return model;
    }

    /** Null: there is none. */
    private static SlowModel best(Way way, int aim, int t) {
        need(!way.hasManyRows(), STATE);
        return SlowModel.best(way.rows(), aim, t);
    }

    private long best(int[] a) {
        Way way = way(a[0]);
        what(a[1], 2);
        need(a[2] == NONE || within(a[2], 0, 12), OUTSIDE);
        what(a[3], 3);
        SlowModel best = best(way, a[1], a[2]);
        return best == null ? NONE : best.outcome(a[3]);
    }

    private long row(int[] a) {
        Way way = way(a[0]);
        piece(way, a[3]);
        person(way, a[4]);
        what(a[1], 2);
        need(a[2] == NONE || within(a[2], 0, 12), OUTSIDE);
        SlowModel best = best(way, a[1], a[2]);
        return best == null ? NONE : best.does(a[3], a[4]);
    }

    private static long fewest(Way way) {
        SlowModel soonest = best(way, 0, NONE);
        for (int t = 0; t <= 12 && soonest != null; t++) {
            SlowModel best = best(way, 0, t);
            if (best != null && best.outcome(0) == soonest.outcome(0)) {
                return t;
            }
        }
        return NONE;
    }

    private static long least(BigInteger upper, BigInteger lower, int which) {
        BigInteger common = upper.gcd(lower);
        return (which == 0 ? upper : lower).divide(common).longValueExact();
    }

    private long even(String name, int[] a) {
        Way way = way(a[0]);
        int which = a[a.length - 1];
        if (name.equals("share")) {
            person(way, a[1]);
        }
        what(which, 1);
        need(way.text.beasts.length > 0, STATE);
        BigInteger[] even = soonest(way);
        if (name.equals("even")) {
            return least(even[0], even[1], which);
        }
        // of all MILES a PERSON rides as many as its minutes on foot are too many
        BigInteger over = walked(way, a[1]).multiply(even[1]).subtract(even[0]).max(BigInteger.ZERO);
        if (over.signum() == 0) {
            return which;
        }
        BigInteger saved = walked(way, a[1]).subtract(ridden(way));
        return least(over.multiply(BigInteger.valueOf(way.allMiles())), saved.multiply(even[1]), which);
    }

    /** Minutes of all MILES on foot. */
    private static BigInteger walked(Way way, int p) {
        return BigInteger.valueOf((long) way.allMiles() * way.text.people[p][0]);
    }

    /** Minutes of all MILES on BEAST 0. */
    private static BigInteger ridden(Way way) {
        return BigInteger.valueOf((long) way.allMiles() * way.text.beasts[0][0]);
    }

    /**
     * T as upper and lower number. If those ride some who walk longer than a time, what is ridden is a
     * straight line of T; it is the first such line, from the slowest on, that comes to all that can be
     * ridden within its times; nobody is sooner than on foot or by riding all the way.
     */
    private static BigInteger[] soonest(Way way) {
        TreeSet<BigInteger> times = new TreeSet<>();
        BigInteger bound = BigInteger.ZERO;
        for (int p = 0; p < way.text.people.length; p++) {
            times.add(walked(way, p));
            bound = bound.max(walked(way, p).min(ridden(way)));
        }
        times.add(bound);
        for (BigInteger time : times.tailSet(bound, true).descendingSet()) {
            BigInteger[] line = lineOfThoseAbove(way, time);
            boolean isMet = line[1].signum() > 0 && line[0].compareTo(line[1].multiply(time)) >= 0;
            if (isMet) {
                return line;
            }
        }
        return new BigInteger[] {bound, BigInteger.ONE};
    }

    /** Where the line of those who walk longer than a time is at all that can be ridden. */
    private static BigInteger[] lineOfThoseAbove(Way way, BigInteger time) {
        BigInteger places = BigInteger.valueOf((long) way.text.beasts.length * way.text.beasts[0][3]);
        BigInteger upper = places.negate();
        BigInteger lower = BigInteger.ZERO;
        BigInteger scale = BigInteger.ONE;
        for (int p = 0; p < way.text.people.length; p++) {
            BigInteger saved = walked(way, p).subtract(ridden(way));
            if (walked(way, p).compareTo(time) > 0 && saved.signum() > 0) {
                upper = upper.multiply(saved).add(walked(way, p).multiply(scale));
                lower = lower.multiply(saved).add(scale);
                scale = scale.multiply(saved);
            }
        }
        return new BigInteger[] {upper, lower};
    }

    private long copy(int[] a) {
        sheet(a[0]);
        sheet(a[2]);
        need(rows.containsKey(a[0]) && rows.containsKey(a[2]), -11);
        need(lanes.get(a[0]).equals(lanes.get(a[2])), -12);
        int[] from = rows.get(a[0]).clone();
        int[] to = rows.get(a[2]);
        need(a[1] >= 0 && a[3] >= 0 && a[4] >= 0, -13);
        need((long) a[1] + a[4] <= from.length && (long) a[3] + a[4] <= to.length, -13);
        for (int c = 0; c < a[4]; c++) {
            to[a[3] + c] = from[a[1] + c];
        }
        return a[4];
    }

    private long tell(Drawn plan) {
        int[][] bodies = {{1}, {2, 1}, {3, 2, 1, 1}};
        for (int body : bodies[plan.kind]) {
            leave(body);
        }
        int ridden = 0;
        for (int cell : plan.cells) {
            ridden += cell == 0 ? 0 : 1;
        }
        return new int[] {ridden, ridden + 100, 2 * ridden + 100}[plan.kind];
    }

    private void leave(int body) {
        trace = trace.multiply(BigInteger.valueOf(31)).add(BigInteger.valueOf(body));
    }

    private long many(int what) {
        what(what, 3);
        int people = 0;
        int beasts = 0;
        for (Way way : ways) {
            people += way.text.people.length;
            beasts += way.text.beasts.length;
        }
        return new int[] {ways.size(), plans.size(), people, beasts}[what];
    }

    // what the throwing of calls asks for

    int roads() {
        return ways.size();
    }

    Text text(int x) {
        return ways.get(x).text;
    }

    /** The codes that road() would read; null: it would come to none. */
    String textOf(int k, int i, int n) {
        int[] row = rows.get(k);
        if (row == null || i < 0 || n < 0 || (long) i + n > row.length) {
            return null;
        }
        StringBuilder codes = new StringBuilder();
        for (int c = 0; c < n; c++) {
            codes.append(row[i + c] > 32 && row[i + c] < 127 ? (char) row[i + c] : '?');
        }
        return codes.toString();
    }
}
