/** People who share beasts on a road; ../shared/DOC.md says what every call answers. */
public final class RideTie {

    public static final int UNKNOWN = -1, OUTSIDE = -2, STATE = -3, FULL = -4, NONE = -9;
    public static final long LOST = Long.MIN_VALUE;

    private static final int MOST_ROADS = 3, MOST_PLANS = 10, MOST_SHEETS = 4, MOST_CELLS = 120;
    private static final int MOST_PIECES = 6, MOST_PEOPLE = 4, MOST_BEASTS = 2, MOST_MILES = 9, MOST_PACE = 60;
    private static final int GROUNDS = 3, LANES = 3, KINDS = 3, AIMS = 3;
    private static final int MOST_ROWS = 65536, MOST_REST = 60, TWELVE = 12;

    // where the numbers of a PERSON and of a BEAST stand, the three PACES being 0, 1, 2
    private static final int FAR = 3, PERSON_NUMBERS = 4;
    private static final int HOLDS = 3, STANDS = 4, LIMIT = 5, BEAST_NUMBERS = 6;

    private static final int MEET = 1, REST = 2;
    private static final int NULL = 1, CAST = 2, INDEX = 3, SIZE = 4;

    private final Road[] roads = new Road[MOST_ROADS];
    private final Best[] bests = new Best[MOST_ROADS];
    private final Plan[] plans = new Plan[MOST_PLANS];
    private final Sheet[] sheets = new Sheet[MOST_SHEETS];
    private final Share result = new Share();
    // a TEXT is read into this one, so that a wrong TEXT leaves no ROAD behind and makes no object
    private Road draft = new Road();
    private int roadCount;
    private int planCount;
    private int goneTwelfths = 1;
    private int traceNumber;
    private int latestFault;

    public RideTie() {
        for (int k = 0; k < MOST_SHEETS; k++) {
            sheets[k] = new Sheet();
        }
    }

    // ---- 1 roads

    public int road(int sheet, int lane, int i, int n) {
        latestFault = 0;
        Sheet source = sheetOf(sheet);
        if (source == null) {
            return UNKNOWN;
        }
        if (lane < 0 || lane >= LANES) {
            return OUTSIDE;
        }
        int found = source.faultOfCells(lane, i, n);
        if (found != 0) {
            return failed(found);
        }
        int place = new Reader(source, i, n, draft).read();
        if (place != NONE) {
            return -100 - place;
        }
        if (roadCount >= MOST_ROADS) {
            return FULL;
        }
        roads[roadCount] = draft;
        bests[roadCount] = new Best(draft);
        draft = new Road();
        roadCount++;
        return roadCount - 1;
    }

    public int ofRoad(int x, int what) {
        Road road = roadOf(x);
        if (road == null) {
            return UNKNOWN;
        }
        switch (what) {
            case 0: return road.pieces;
            case 1: return road.people;
            case 2: return road.beasts;
            case 3: return road.allMiles();
            case 4: return road.lamePerson;
            case 5: return road.lameFrom;
            default: return OUTSIDE;
        }
    }

    public int ofPiece(int x, int k, int what) {
        Road road = roadOf(x);
        if (road == null || !road.hasPiece(k)) {
            return UNKNOWN;
        }
        switch (what) {
            case 0: return road.miles[k];
            case 1: return road.grounds[k];
            default: return OUTSIDE;
        }
    }

    public int ofPerson(int x, int p, int what) {
        Road road = roadOf(x);
        if (road == null || !road.hasPerson(p)) {
            return UNKNOWN;
        }
        return what < 0 || what >= PERSON_NUMBERS ? OUTSIDE : road.ofPersons(p, what);
    }

    public int ofBeast(int x, int b, int what) {
        Road road = roadOf(x);
        if (road == null || !road.hasBeast(b)) {
            return UNKNOWN;
        }
        return what < 0 || what >= BEAST_NUMBERS ? OUTSIDE : road.ofMounts(b, what);
    }

    public int lame(int x, int p, int k) {
        Road road = roadOf(x);
        if (road == null) {
            return UNKNOWN;
        }
        if (p == NONE) {
            return road.becomeLame(NONE, NONE) ? 1 : 0;
        }
        if (!road.hasPerson(p) || !road.hasPiece(k)) {
            return UNKNOWN;
        }
        return road.becomeLame(p, k) ? 1 : 0;
    }

    public int walks(int x, int p, int k) {
        Road road = roadOf(x);
        if (road == null || !road.hasPerson(p) || !road.hasPiece(k)) {
            return UNKNOWN;
        }
        return road.minutesOnFoot(p, k);
    }

    public int rides(int x, int b, int k) {
        Road road = roadOf(x);
        if (road == null || !road.hasBeast(b) || !road.hasPiece(k)) {
            return UNKNOWN;
        }
        return road.minutesRidden(b, k);
    }

    public int gone(int v) {
        if (v < 0 || v > TWELVE) {
            return OUTSIDE;
        }
        int before = goneTwelfths;
        goneTwelfths = v;
        return before;
    }

    // ---- 2 plans

    public int plan(int kind, int x, int gate, int minutes, int sheet, int lane, int i, int n) {
        latestFault = 0;
        Sheet source = sheetOf(sheet);
        Road road = roadOf(x);
        if (source == null || road == null) {
            return UNKNOWN;
        }
        if (kind < 0 || kind >= KINDS || lane < 0 || lane >= LANES) {
            return OUTSIDE;
        }
        if (!gateIsAsTold(kind, gate, road) || !minutesAreAsTold(kind, minutes)) {
            return OUTSIDE;
        }
        int found = source.faultOfCells(lane, i, n);
        if (found != 0) {
            return failed(found);
        }
        if (n != road.cellsOfPlan()) {
            return OUTSIDE;
        }
        if (!source.allWithin(i, n, road.beasts)) {
            return UNKNOWN;
        }
        if (planCount >= MOST_PLANS) {
            return FULL;
        }
        Plan made = new Plan(kind, x, road, gate, minutes);
        source.copyTo(i, made.cells, n);
        plans[planCount] = made;
        planCount++;
        return planCount - 1;
    }

    public int ofPlan(int q, int what) {
        Plan plan = planOf(q);
        if (plan == null) {
            return UNKNOWN;
        }
        switch (what) {
            case 0: return plan.kind;
            case 1: return plan.roadNumber;
            case 2: return plan.gate;
            case 3: return plan.minutes;
            default: return OUTSIDE;
        }
    }

    public int does(int q, int k, int p) {
        Plan plan = planOf(q);
        if (plan == null || !plan.road.hasPiece(k) || !plan.road.hasPerson(p)) {
            return UNKNOWN;
        }
        return plan.cellOf(k, p);
    }

    public int wrong(int q) {
        Plan plan = planOf(q);
        return plan == null ? UNKNOWN : plan.travel();
    }

    public int there(int q, int p, int gate) {
        Plan plan = planOf(q);
        if (plan == null || !plan.road.hasPerson(p) || !plan.road.hasGate(gate)) {
            return UNKNOWN;
        }
        return plan.travel() != NONE ? STATE : plan.journey.arrivalOf(p, gate);
    }

    public int came(int q, int b, int gate) {
        Plan plan = planOf(q);
        if (plan == null || !plan.road.hasBeast(b) || !plan.road.hasGate(gate)) {
            return UNKNOWN;
        }
        return plan.travel() != NONE ? STATE : plan.journey.comingOf(b, gate);
    }

    public int went(int q, int p, int gate) {
        Plan plan = planOf(q);
        // a PIECE begins at each GATE but the last one
        if (plan == null || !plan.road.hasPerson(p) || !plan.road.hasPiece(gate)) {
            return UNKNOWN;
        }
        return plan.travel() != NONE ? STATE : plan.journey.startOf(p, gate);
    }

    public int outcome(int q, int what) {
        Plan plan = planOf(q);
        if (plan == null) {
            return UNKNOWN;
        }
        if (what < 0 || what > 4) {
            return OUTSIDE;
        }
        if (plan.travel() != NONE) {
            return STATE;
        }
        switch (what) {
            case 0: return plan.journey.lastMinute();
            case 1: return plan.journey.firstMinute();
            case 2: return plan.journey.mostWalked();
            case 3: return plan.journey.tiesInAll();
            default: return plan.journey.aloneInAll();
        }
    }

    public int walked(int q, int p) {
        Plan plan = planOf(q);
        if (plan == null || !plan.road.hasPerson(p)) {
            return UNKNOWN;
        }
        return plan.travel() != NONE ? STATE : plan.journey.walkedBy(p);
    }

    public long safe(int q, int which) {
        Plan plan = planOf(q);
        if (plan == null || noHalf(which) || plan.travel() != NONE) {
            return LOST;
        }
        result.become(1, 1);
        for (int i = 0; i < plan.journey.aloneInAll(); i++) {
            result.become(result.upper * (TWELVE - goneTwelfths), result.lower * TWELVE);
        }
        return result.half(which);
    }

    // ---- 3 the best

    public int best(int x, int aim, int t, int what) {
        Best best = bestOf(x);
        if (best == null) {
            return UNKNOWN;
        }
        if (!aimIsAsTold(aim, t) || what < 0 || what > 3) {
            return OUTSIDE;
        }
        return best.searchOnce() ? best.numberOf(best.pick(aim, t), what) : STATE;
    }

    public int row(int x, int aim, int t, int k, int p) {
        Best best = bestOf(x);
        if (best == null || !best.road.hasPiece(k) || !best.road.hasPerson(p)) {
            return UNKNOWN;
        }
        if (!aimIsAsTold(aim, t)) {
            return OUTSIDE;
        }
        if (!best.searchOnce()) {
            return STATE;
        }
        int code = best.numberOf(best.pick(aim, t), Best.CODE);
        return code == NONE ? NONE : best.road.cellOfCode(code, k, p);
    }

    public int cost(int x) {
        Best best = bestOf(x);
        if (best == null) {
            return UNKNOWN;
        }
        if (!best.searchOnce()) {
            return STATE;
        }
        int fairest = best.numberOf(best.pick(2, NONE), 0);
        return fairest == NONE ? NONE : fairest - best.numberOf(best.pick(0, NONE), 0);
    }

    public int fewest(int x) {
        Best best = bestOf(x);
        if (best == null) {
            return UNKNOWN;
        }
        return best.searchOnce() ? best.fewestTies() : STATE;
    }

    public int rows(int x) {
        Best best = bestOf(x);
        if (best == null) {
            return UNKNOWN;
        }
        return best.searchOnce() ? best.rightRows : STATE;
    }

    // ---- 4 even

    public long even(int x, int which) {
        Road road = roadOf(x);
        if (road == null || noHalf(which) || road.beasts == 0) {
            return LOST;
        }
        result.becomeEven(road);
        result.become(result.upper * road.allMiles(), result.lower);
        return result.half(which);
    }

    public long share(int x, int p, int which) {
        Road road = roadOf(x);
        if (road == null || !road.hasPerson(p) || noHalf(which) || road.beasts == 0) {
            return LOST;
        }
        result.becomeEven(road);
        result.becomeRidden(road, p);
        return result.half(which);
    }

    // ---- 5 sheets, parts

    public int sheet(int k, int lane, int n) {
        latestFault = 0;
        Sheet target = sheetOf(k);
        if (target == null) {
            return UNKNOWN;
        }
        if (lane < 0 || lane >= LANES || n > MOST_CELLS) {
            return OUTSIDE;
        }
        if (n < 0) {
            return failed(SIZE);
        }
        target.renew(lane, n);
        return 1;
    }

    public int lose(int k) {
        Sheet target = sheetOf(k);
        if (target == null) {
            return UNKNOWN;
        }
        if (target.isNothing()) {
            return 0;
        }
        target.renew(NONE, 0);
        return 1;
    }

    public int put(int k, int i, int v) {
        latestFault = 0;
        Sheet target = sheetOf(k);
        if (target == null) {
            return UNKNOWN;
        }
        if (target.isNothing()) {
            return failed(NULL);
        }
        if (!target.hasCell(i)) {
            return failed(INDEX);
        }
        target.write(i, v);
        return 1;
    }

    public long cell(int k, int i, int lane) {
        latestFault = 0;
        Sheet source = sheetOf(k);
        if (source == null || lane < 0 || lane >= LANES) {
            return LOST;
        }
        latestFault = source.faultOfCell(lane, i);
        return latestFault != 0 ? LOST : source.at(i);
    }

    public int copy(int k, int i, int other, int j, int n) {
        latestFault = 0;
        Sheet source = sheetOf(k);
        Sheet target = sheetOf(other);
        if (source == null || target == null) {
            return UNKNOWN;
        }
        if (source.isNothing() || target.isNothing()) {
            return failed(NULL);
        }
        if (source.lane != target.lane) {
            return failed(CAST);
        }
        if (!source.hasCells(i, n) || !target.hasCells(j, n)) {
            return failed(INDEX);
        }
        System.arraycopy(source.cells, i, target.cells, j, n);
        return n;
    }

    public int tell(int q) {
        Plan plan = planOf(q);
        if (plan == null) {
            return UNKNOWN;
        }
        switch (plan.kind) {
            case REST: return restBody(plan);
            case MEET: return meetBody(plan);
            default: return planBody(plan);
        }
    }

    public int call(int q) {
        Plan plan = planOf(q);
        if (plan == null) {
            return UNKNOWN;
        }
        leave(plan.kind == REST ? 5 : 4);
        return plan.kind == REST ? 60 : q;
    }

    public int as(int q, int kind) {
        latestFault = 0;
        Plan plan = planOf(q);
        if (plan == null) {
            return UNKNOWN;
        }
        if (kind < 0 || kind >= KINDS) {
            return OUTSIDE;
        }
        // a REST is a MEET, a MEET is a PLAN: a greater kind is one of each lesser kind
        return plan.kind < kind ? failed(CAST) : 1;
    }

    public int trace() {
        return traceNumber;
    }

    public int fault() {
        return latestFault;
    }

    public int many(int what) {
        switch (what) {
            case 0: return roadCount;
            case 1: return planCount;
            case 2: return peopleInAll();
            case 3: return beastsInAll();
            default: return OUTSIDE;
        }
    }

    // ---- parts of the calls

    private Road roadOf(int x) {
        return x >= 0 && x < roadCount && x < MOST_ROADS ? roads[x] : null;
    }

    private Best bestOf(int x) {
        return x >= 0 && x < roadCount && x < MOST_ROADS ? bests[x] : null;
    }

    private Plan planOf(int q) {
        return q >= 0 && q < planCount && q < MOST_PLANS ? plans[q] : null;
    }

    private Sheet sheetOf(int k) {
        return k >= 0 && k < MOST_SHEETS ? sheets[k] : null;
    }

    private int failed(int number) {
        latestFault = number;
        return -10 - number;
    }

    private static boolean gateIsAsTold(int kind, int gate, Road road) {
        return kind >= MEET ? gate >= 1 && gate < road.pieces : gate == 0;
    }

    private static boolean minutesAreAsTold(int kind, int minutes) {
        return kind == REST ? minutes >= 1 && minutes <= MOST_REST : minutes == 0;
    }

    private static boolean aimIsAsTold(int aim, int t) {
        return aim >= 0 && aim < AIMS && (t == NONE || t >= 0 && t <= TWELVE);
    }

    private static boolean noHalf(int which) {
        return which != 0 && which != 1;
    }

    private void leave(int body) {
        traceNumber = 31 * traceNumber + body;
    }

    private int planBody(Plan plan) {
        leave(1);
        return plan.ridden();
    }

    private int meetBody(Plan plan) {
        leave(2);
        return planBody(plan) + 100;
    }

    private int restBody(Plan plan) {
        leave(3);
        int asMeet = meetBody(plan);
        return asMeet + planBody(plan);
    }

    private int peopleInAll() {
        int sum = 0;
        for (int x = 0; x < roadCount; x++) {
            Road road = roadOf(x);
            sum += road == null ? 0 : road.people;
        }
        return sum;
    }

    private int beastsInAll() {
        int sum = 0;
        for (int x = 0; x < roadCount; x++) {
            Road road = roadOf(x);
            sum += road == null ? 0 : road.beasts;
        }
        return sum;
    }

    /** Nothing, or a row of a LANE. */
    private static final class Sheet {
        final int[] cells = new int[MOST_CELLS];
        int lane = NONE;
        int length;

        boolean isNothing() {
            return lane == NONE;
        }

        void renew(int newLane, int n) {
            lane = newLane;
            length = n;
            for (int i = 0; i < MOST_CELLS; i++) {
                cells[i] = 0;
            }
        }

        boolean hasCell(int i) {
            return i >= 0 && i < length;
        }

        boolean hasCells(int i, int n) {
            return i >= 0 && i <= length && n >= 0 && n <= length - i;
        }

        int at(int i) {
            return i >= 0 && i < length && i < cells.length ? cells[i] : 0;
        }

        void write(int i, int v) {
            if (hasCell(i)) {
                cells[i] = lane == 0 ? (byte) v : lane == 1 ? (short) v : v;
            }
        }

        int faultOfCell(int wantedLane, int i) {
            if (isNothing()) {
                return NULL;
            }
            if (lane != wantedLane) {
                return CAST;
            }
            return hasCell(i) ? 0 : INDEX;
        }

        int faultOfCells(int wantedLane, int i, int n) {
            if (isNothing()) {
                return NULL;
            }
            if (lane != wantedLane) {
                return CAST;
            }
            if (n < 0) {
                return SIZE;
            }
            return hasCells(i, n) ? 0 : INDEX;
        }

        boolean allWithin(int i, int n, int most) {
            for (int j = 0; j < n; j++) {
                if (at(i + j) < 0 || at(i + j) > most) {
                    return false;
                }
            }
            return true;
        }

        void copyTo(int i, int[] target, int n) {
            for (int j = 0; j < n && j < target.length; j++) {
                target[j] = at(i + j);
            }
        }
    }

    /** Reads a TEXT into a ROAD up to its FIRST FAULT; a TEXT that ends too soon has it at its end. */
    private static final class Reader {
        private final Sheet source;
        private final int from;
        private final int count;
        private final Road road;
        private int place;

        Reader(Sheet source, int from, int count, Road road) {
            this.source = source;
            this.from = from;
            this.count = count;
            this.road = road;
        }

        /** The FIRST FAULT, or NONE. */
        int read() {
            road.empty();
            int found = readPieces();
            return found == NONE ? readFolk() : found;
        }

        /** No TEXT has a code 0, so it can stand for the end. */
        private int code() {
            return place < count ? source.at(from + place) : 0;
        }

        private boolean isAt(int low, int high) {
            return code() >= low && code() <= high;
        }

        private int readPieces() {
            if (code() != 'm') {
                return place;
            }
            place++;
            for (int k = 0; k < MOST_PIECES && (k == 0 || isAt('1', '0' + MOST_MILES)); k++) {
                int found = readPiece(k);
                if (found != NONE) {
                    return found;
                }
            }
            return NONE;
        }

        private int readPiece(int k) {
            if (!isAt('1', '0' + MOST_MILES)) {
                return place;
            }
            int miles = code() - '0';
            place++;
            if (!isAt('0', '0' + GROUNDS - 1)) {
                return place;
            }
            road.miles[k] = miles;
            road.grounds[k] = code() - '0';
            road.pieces = k + 1;
            place++;
            return NONE;
        }

        private int readFolk() {
            for (int turn = 0; turn <= MOST_PEOPLE + MOST_BEASTS; turn++) {
                if (place >= count && road.people > 0) {
                    return NONE;
                }
                if (code() != ';') {
                    return place;
                }
                place++;
                int found = place;
                if (code() == 'p' && road.people < MOST_PEOPLE && road.beasts == 0) {
                    found = readPerson();
                } else if (code() == 'b' && road.people > 0 && road.beasts < MOST_BEASTS) {
                    found = readBeast();
                }
                if (found != NONE) {
                    return found;
                }
            }
            return place;
        }

        private int readPerson() {
            int first = road.people * PERSON_NUMBERS;
            int found = NONE;
            road.people++;
            place++;
            for (int j = 0; j < PERSON_NUMBERS && found == NONE; j++) {
                int low = j == FAR ? 0 : 1;
                int high = j == FAR ? 99 : MOST_PACE;
                found = readNumber(road.persons, first + j, j > 0, low, high);
            }
            return found;
        }

        private int readBeast() {
            int first = road.beasts * BEAST_NUMBERS;
            int found = NONE;
            road.beasts++;
            place++;
            for (int j = 0; j < BEAST_NUMBERS && found == NONE; j++) {
                int low = j == STANDS ? 0 : j == LIMIT ? 9 : 1;
                int high = j == HOLDS ? 2 : j == STANDS ? 30 : j == LIMIT ? 99 : MOST_PACE;
                found = readNumber(road.mounts, first + j, j > 0, low, high);
            }
            return found;
        }

        private int readNumber(int[] row, int index, boolean behindComma, int low, int high) {
            if (behindComma) {
                if (code() != ',') {
                    return place;
                }
                place++;
            }
            if (!isAt('0', '9')) {
                return place;
            }
            int first = place;
            int value = code() - '0';
            place++;
            if (isAt('0', '9')) {
                value = 10 * value + code() - '0';
                place++;
            }
            if (value < low || value > high || index < 0 || index >= row.length) {
                return first;
            }
            row[index] = value;
            return NONE;
        }
    }

    private static final class Road {
        int pieces;
        int people;
        int beasts;
        int lamePerson = NONE;
        int lameFrom = NONE;
        final int[] miles = new int[MOST_PIECES];
        final int[] grounds = new int[MOST_PIECES];
        final int[] persons = new int[MOST_PEOPLE * PERSON_NUMBERS];
        final int[] mounts = new int[MOST_BEASTS * BEAST_NUMBERS];

        void empty() {
            pieces = 0;
            people = 0;
            beasts = 0;
        }

        boolean hasPiece(int k) {
            return k >= 0 && k < pieces && k < MOST_PIECES;
        }

        boolean hasGate(int gate) {
            return gate >= 0 && gate <= pieces && gate <= MOST_PIECES;
        }

        boolean hasPerson(int p) {
            return p >= 0 && p < people && p < MOST_PEOPLE;
        }

        boolean hasBeast(int b) {
            return b >= 0 && b < beasts && b < MOST_BEASTS;
        }

        int ofPersons(int p, int what) {
            return p >= 0 && p < people && p < MOST_PEOPLE && what >= 0 && what < PERSON_NUMBERS
                ? persons[p * PERSON_NUMBERS + what] : 0;
        }

        int ofMounts(int b, int what) {
            return b >= 0 && b < beasts && b < MOST_BEASTS && what >= 0 && what < BEAST_NUMBERS
                ? mounts[b * BEAST_NUMBERS + what] : 0;
        }

        int allMiles() {
            int sum = 0;
            for (int k = 0; k < pieces && k < MOST_PIECES; k++) {
                sum += miles[k];
            }
            return sum;
        }

        boolean isLame(int p, int k) {
            return lamePerson == p && lameFrom == k;
        }

        /** Whether that was not so before. */
        boolean becomeLame(int p, int k) {
            boolean isNew = !isLame(p, k);
            lamePerson = p;
            lameFrom = k;
            return isNew;
        }

        int minutesOnFoot(int p, int k) {
            if (!hasPiece(k)) {
                return 0;
            }
            int minutes = miles[k] * ofPersons(p, grounds[k]);
            return p == lamePerson && k >= lameFrom ? 2 * minutes : minutes;
        }

        int minutesRidden(int b, int k) {
            return hasPiece(k) ? miles[k] * ofMounts(b, grounds[k]) : 0;
        }

        int cellsOfPlan() {
            return pieces * people;
        }

        boolean hasManyRows() {
            return power(beasts + 1, cellsOfPlan()) > MOST_ROWS;
        }

        /** What a PERSON does on a PIECE by the row whose cells are the digits of a code. */
        int cellOfCode(int code, int k, int p) {
            int base = beasts + 1;
            int unit = power(base, cellsOfPlan() - 1 - k * people - p);
            return unit < 1 || base < 1 ? 0 : code / unit % base;
        }

        /** No more than just above MOST_ROWS is told, so that it cannot wrap. */
        static int power(int base, int times) {
            int product = 1;
            for (int i = 0; i < times && product <= MOST_ROWS; i++) {
                product *= base;
            }
            return product;
        }
    }

    private static final class Plan {
        final int kind;
        final int roadNumber;
        final Road road;
        final int gate;
        final int minutes;
        final int[] cells = new int[MOST_PIECES * MOST_PEOPLE];
        final Journey journey;

        Plan(int kind, int roadNumber, Road road, int gate, int minutes) {
            this.kind = kind;
            this.roadNumber = roadNumber;
            this.road = road;
            this.gate = gate;
            this.minutes = minutes;
            this.journey = new Journey(road);
        }

        /** WRONG; NONE: it is not, and the journey tells all. Somebody may have become LAME since. */
        int travel() {
            return journey.travel(cells, gate, minutes);
        }

        int cellOf(int k, int p) {
            int index = k * road.people + p;
            return index >= 0 && index < cells.length ? cells[index] : 0;
        }

        int ridden() {
            int count = 0;
            for (int i = 0; i < cells.length; i++) {
                count += cells[i] != 0 ? 1 : 0;
            }
            return count;
        }
    }

    /**
     * Where all are when, GATE by GATE. What is true of a GATE and a PERSON stands at GATE times
     * MOST_PEOPLE and PERSON, of a GATE and a BEAST at GATE times MOST_BEASTS and BEAST: a search can
     * go back to a GATE and on from it by another PIECE, with what stands ahead of it as it was.
     */
    private static final class Journey {
        private final Road road;
        private final int[] arrivals = new int[(MOST_PIECES + 1) * MOST_PEOPLE];
        private final int[] starts = new int[(MOST_PIECES + 1) * MOST_PEOPLE];
        private final int[] feet = new int[(MOST_PIECES + 1) * MOST_PEOPLE];
        private final int[] comings = new int[(MOST_PIECES + 1) * MOST_BEASTS];
        private final int[] riders = new int[(MOST_PIECES + 1) * MOST_BEASTS];
        private final int[] sinceStood = new int[(MOST_PIECES + 1) * MOST_BEASTS];
        private final int[] ties = new int[MOST_PIECES + 1];
        private final int[] alone = new int[MOST_PIECES + 1];

        Journey(Road road) {
            this.road = road;
        }

        /** WRONG; NONE: it is not, and what is true of all GATES is told. All is 0 at GATE 0. */
        int travel(int[] cells, int meeting, int minutes) {
            for (int k = 0; k < road.pieces; k++) {
                int found = goOn(k, cells);
                if (found != NONE) {
                    return 100 * k + found;
                }
                if (k + 1 == meeting) {
                    meetAt(k + 1, minutes);
                }
            }
            return NONE;
        }

        /** All go on by PIECE k; 10 times the first PERSON that cannot, and why; NONE: all can. */
        int goOn(int k, int[] cells) {
            if (!road.hasPiece(k)) {
                return NONE;
            }
            int found = seatAll(k, cells);
            if (found != NONE) {
                return found;
            }
            ties[k + 1] = ties[k];
            alone[k + 1] = alone[k];
            for (int b = 0; b < road.beasts && b < MOST_BEASTS; b++) {
                lead(k, b);
            }
            return NONE;
        }

        private int seatAll(int k, int[] cells) {
            for (int b = 0; b < MOST_BEASTS; b++) {
                riders[(k + 1) * MOST_BEASTS + b] = 0;
            }
            for (int p = 0; p < road.people && p < MOST_PEOPLE; p++) {
                int index = k * road.people + p;
                int what = index < cells.length ? cells[index] : 0;
                int why = what == 0 ? walk(k, p) : seat(k, p, what - 1);
                if (why != 0) {
                    return 10 * p + why;
                }
            }
            return NONE;
        }

        private int walk(int k, int p) {
            int at = k * MOST_PEOPLE + p;
            int next = at + MOST_PEOPLE;
            feet[next] = feet[at] + road.miles[k];
            starts[at] = arrivals[at];
            arrivals[next] = arrivals[at] + road.minutesOnFoot(p, k);
            return feet[next] > road.ofPersons(p, FAR) ? 3 : 0;
        }

        private int seat(int k, int p, int b) {
            if (!road.hasBeast(b) || comings[k * MOST_BEASTS + b] == NONE) {
                return 1;
            }
            int next = (k + 1) * MOST_BEASTS + b;
            if (Integer.bitCount(riders[next]) >= road.ofMounts(b, HOLDS)) {
                return 2;
            }
            riders[next] |= 1 << p;
            feet[(k + 1) * MOST_PEOPLE + p] = feet[k * MOST_PEOPLE + p];
            return 0;
        }

        private void lead(int k, int b) {
            int at = k * MOST_BEASTS + b;
            int next = at + MOST_BEASTS;
            boolean isTied = k > 0 && comings[at] != NONE && riders[next] != riders[at];
            ties[k + 1] += isTied ? 1 : 0;
            if (riders[next] == 0) {
                comings[next] = NONE;
                return;
            }
            int ready = comings[at];
            int miles = sinceStood[at] + road.miles[k];
            if (isTied || k > 0 && miles > road.ofMounts(b, LIMIT)) {
                ready += road.ofMounts(b, STANDS);
                miles = road.miles[k];
            }
            int start = rideOn(k, riders[next], ready, road.minutesRidden(b, k));
            comings[next] = start + road.minutesRidden(b, k);
            sinceStood[next] = miles;
            alone[k + 1] += isTied && start > comings[at] ? 1 : 0;
        }

        /** The minute at which they start: no rider goes on without the others. */
        private int rideOn(int k, int together, int ready, int minutes) {
            int start = ready;
            for (int p = 0; p < MOST_PEOPLE; p++) {
                if ((together & 1 << p) != 0) {
                    start = Math.max(start, arrivals[k * MOST_PEOPLE + p]);
                }
            }
            for (int p = 0; p < MOST_PEOPLE; p++) {
                if ((together & 1 << p) != 0) {
                    starts[k * MOST_PEOPLE + p] = start;
                    arrivals[(k + 1) * MOST_PEOPLE + p] = start + minutes;
                }
            }
            return start;
        }

        private void meetAt(int gate, int minutes) {
            int met = latestAt(gate) + minutes;
            for (int p = 0; p < road.people && p < MOST_PEOPLE && gate <= MOST_PIECES; p++) {
                arrivals[gate * MOST_PEOPLE + p] = met;
            }
        }

        private int latestAt(int gate) {
            int latest = 0;
            for (int p = 0; p < road.people; p++) {
                latest = Math.max(latest, arrivalOf(p, gate));
            }
            return latest;
        }

        int arrivalOf(int p, int gate) {
            return road.hasPerson(p) && road.hasGate(gate) ? arrivals[gate * MOST_PEOPLE + p] : 0;
        }

        int startOf(int p, int gate) {
            return road.hasPerson(p) && road.hasPiece(gate) ? starts[gate * MOST_PEOPLE + p] : 0;
        }

        int comingOf(int b, int gate) {
            return road.hasBeast(b) && road.hasGate(gate) ? comings[gate * MOST_BEASTS + b] : NONE;
        }

        int walkedBy(int p) {
            return road.hasPerson(p) && road.hasGate(road.pieces) ? feet[road.pieces * MOST_PEOPLE + p] : 0;
        }

        int lastMinute() {
            return latestAt(road.pieces);
        }

        int firstMinute() {
            int least = arrivalOf(0, road.pieces);
            for (int p = 1; p < road.people; p++) {
                least = Math.min(least, arrivalOf(p, road.pieces));
            }
            return least;
        }

        int mostWalked() {
            int most = 0;
            for (int p = 0; p < road.people; p++) {
                most = Math.max(most, walkedBy(p));
            }
            return most;
        }

        int tiesInAll() {
            return road.hasGate(road.pieces) ? ties[road.pieces] : 0;
        }

        int aloneInAll() {
            return road.hasGate(road.pieces) ? alone[road.pieces] : 0;
        }
    }

    /**
     * The best rows of a ROAD by each AIM, for each number of TIES just so many: all calls of the
     * third part are answered from these, and the rows are gone through once.
     */
    private static final class Best {
        static final int CODE = 4;
        private static final int WALKED = 2, TIED = 3, NUMBERS = 5;
        private static final int MOST_TIES = MOST_BEASTS * (MOST_PIECES - 1);

        final Road road;
        int rightRows;
        private final Journey journey;
        private boolean wasSearched;
        private int lamePerson;
        private int lameFrom;
        // by AIM, by TIES: LAST, FIRST, WALKED, TIES, and the row as a number whose digits are its cells
        private final int[] table = new int[AIMS * (MOST_TIES + 1) * NUMBERS];
        private final int[] found = new int[NUMBERS];
        private final int[] cells = new int[MOST_PIECES * MOST_PEOPLE];

        Best(Road road) {
            this.road = road;
            this.journey = new Journey(road);
        }

        /** False: there are more rows than are gone through. */
        boolean searchOnce() {
            if (road.hasManyRows()) {
                return false;
            }
            // nothing but who is LAME can make other rows the best
            if (!wasSearched || !road.isLame(lamePerson, lameFrom)) {
                forgetAll();
                explore(0, 0);
            }
            return true;
        }

        private void forgetAll() {
            wasSearched = true;
            lamePerson = road.lamePerson;
            lameFrom = road.lameFrom;
            rightRows = 0;
            for (int i = 0; i < table.length; i++) {
                table[i] = NONE;
            }
        }

        /** The rows that begin as cells do ahead of PIECE k, in their order. */
        private void explore(int k, int code) {
            if (!road.hasPiece(k)) {
                return;
            }
            int choices = Road.power(road.beasts + 1, road.people);
            for (int choice = 0; choice < choices; choice++) {
                choose(k, choice);
                // nothing that begins with a WRONG PIECE is looked at any further
                boolean isRight = journey.goOn(k, cells) == NONE;
                if (isRight && k + 1 < road.pieces) {
                    explore(k + 1, code * choices + choice);
                } else if (isRight) {
                    weigh(code * choices + choice);
                }
            }
        }

        private void choose(int k, int choice) {
            int base = road.beasts + 1;
            int rest = choice;
            for (int p = road.people - 1; p >= 0 && base > 0; p--) {
                int index = k * road.people + p;
                if (index < cells.length) {
                    cells[index] = rest % base;
                }
                rest /= base;
            }
        }

        private void weigh(int code) {
            rightRows++;
            found[0] = journey.lastMinute();
            found[1] = journey.firstMinute();
            found[WALKED] = journey.mostWalked();
            found[TIED] = journey.tiesInAll();
            found[CODE] = code;
            if (found[TIED] < 0 || found[TIED] > MOST_TIES) {
                return;
            }
            for (int aim = 0; aim < AIMS; aim++) {
                int slot = slotOf(aim, found[TIED]);
                if (isSlot(slot) && (isEmpty(slot) || isBefore(found, 0, slot, aim))) {
                    System.arraycopy(found, 0, table, slot, NUMBERS);
                }
            }
        }

        private static int slotOf(int aim, int tied) {
            return (aim * (MOST_TIES + 1) + tied) * NUMBERS;
        }

        private boolean isSlot(int slot) {
            return slot >= 0 && slot <= table.length - NUMBERS;
        }

        private boolean isEmpty(int slot) {
            return !isSlot(slot) || table[slot] == NONE;
        }

        /** Whether the numbers at an index of a row come before those of a slot, by an AIM. */
        private boolean isBefore(int[] row, int index, int slot, int aim) {
            if (row[index + aim] != table[slot + aim]) {
                return row[index + aim] < table[slot + aim];
            }
            if (row[index] != table[slot]) {
                return row[index] < table[slot];
            }
            return row[index + CODE] < table[slot + CODE];
        }

        /** The slot of the best row by an AIM with t TIES at most; NONE: there is none. */
        int pick(int aim, int t) {
            int most = t == NONE ? MOST_TIES : Math.min(t, MOST_TIES);
            int chosen = NONE;
            for (int tied = 0; tied <= most; tied++) {
                int slot = slotOf(aim, tied);
                if (!isEmpty(slot) && (chosen == NONE || isBefore(table, slot, chosen, aim))) {
                    chosen = slot;
                }
            }
            return chosen;
        }

        int numberOf(int slot, int what) {
            return isEmpty(slot) || what < 0 || what >= NUMBERS ? NONE : table[slot + what];
        }

        int fewestTies() {
            int soonest = numberOf(pick(0, NONE), 0);
            for (int tied = 0; tied <= MOST_TIES; tied++) {
                if (soonest != NONE && numberOf(slotOf(0, tied), 0) == soonest) {
                    return tied;
                }
            }
            return NONE;
        }
    }

    /** An upper and a lower number in least terms, the lower one above 0. */
    private static final class Share {
        long upper;
        long lower = 1;

        long half(int which) {
            return which == 0 ? upper : lower;
        }

        void become(long newUpper, long newLower) {
            long divisor = commonDivisor(Math.abs(newUpper), newLower);
            if (divisor > 0) {
                upper = newUpper / divisor;
                lower = newLower / divisor;
            }
        }

        private static long commonDivisor(long a, long b) {
            long greater = a;
            long lesser = b;
            // two numbers of 64 bits are through in fewer than 100 turns
            for (int turn = 0; turn < 200 && lesser != 0; turn++) {
                long rest = greater % lesser;
                greater = lesser;
                lesser = rest;
            }
            return greater;
        }

        private void riseTo(long otherUpper, long otherLower) {
            if (otherUpper * lower > upper * otherLower) {
                become(otherUpper, otherLower);
            }
        }

        /**
         * EVEN for a single mile. Nobody is sooner than by the faster of its feet and the beast; and a
         * group of those whom the beast helps cannot ride more together than all that is ridden: the
         * greatest of these bounds is met.
         */
        void becomeEven(Road road) {
            become(0, 1);
            for (int p = 0; p < road.people; p++) {
                riseTo(Math.min(road.ofPersons(p, 0), road.ofMounts(0, 0)), 1);
            }
            for (int group = 1; group < 1 << road.people; group++) {
                riseForGroup(road, group);
            }
        }

        private void riseForGroup(Road road, int group) {
            long product = 1;
            for (int p = 0; p < road.people; p++) {
                if ((group & 1 << p) != 0) {
                    product *= Math.max(0, gain(road, p));
                }
            }
            if (product == 0) {
                return;
            }
            long places = (long) road.beasts * road.ofMounts(0, HOLDS);
            long newUpper = -places * product;
            long newLower = 0;
            for (int p = 0; p < road.people; p++) {
                int gain = gain(road, p);
                if ((group & 1 << p) != 0 && gain > 0) {
                    newUpper += road.ofPersons(p, 0) * (product / gain);
                    newLower += product / gain;
                }
            }
            riseTo(newUpper, newLower);
        }

        /** How many minutes a mile ridden saves a PERSON. */
        private static int gain(Road road, int p) {
            return road.ofPersons(p, 0) - road.ofMounts(0, 0);
        }

        /** From EVEN for a single mile to RIDES of a PERSON. */
        void becomeRidden(Road road, int p) {
            int gain = gain(road, p);
            long over = road.ofPersons(p, 0) * lower - upper;
            if (gain <= 0 || over <= 0) {
                become(0, 1);
            } else {
                become(road.allMiles() * over, lower * gain);
            }
        }
    }
}
