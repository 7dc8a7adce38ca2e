/** Every call of the public face by its name. */
final class Calls {
    static final String[] NAMES = {"road", "ofRoad", "ofPiece", "ofPerson", "ofBeast", "lame", "walks", "rides", "gone",
        "plan", "ofPlan", "does", "wrong", "there", "came", "went", "outcome", "walked", "safe", "best", "row", "cost",
        "fewest", "rows", "even", "share", "sheet", "lose", "put", "cell", "copy", "tell", "call", "as", "trace", "fault",
        "many"};

    private Calls() {
    }

    static long make(RideTie x, String name, int... a) {
        switch (name) {
            case "road": return x.road(a[0], a[1], a[2], a[3]);
            case "ofRoad": return x.ofRoad(a[0], a[1]);
            case "ofPiece": return x.ofPiece(a[0], a[1], a[2]);
            case "ofPerson": return x.ofPerson(a[0], a[1], a[2]);
            case "ofBeast": return x.ofBeast(a[0], a[1], a[2]);
            case "lame": return x.lame(a[0], a[1], a[2]);
            case "walks": return x.walks(a[0], a[1], a[2]);
            case "rides": return x.rides(a[0], a[1], a[2]);
            case "gone": return x.gone(a[0]);
            case "plan": return x.plan(a[0], a[1], a[2], a[3], a[4], a[5], a[6], a[7]);
            case "ofPlan": return x.ofPlan(a[0], a[1]);
            case "does": return x.does(a[0], a[1], a[2]);
            case "wrong": return x.wrong(a[0]);
            case "there": return x.there(a[0], a[1], a[2]);
            case "came": return x.came(a[0], a[1], a[2]);
            case "went": return x.went(a[0], a[1], a[2]);
            case "outcome": return x.outcome(a[0], a[1]);
            case "walked": return x.walked(a[0], a[1]);
            case "safe": return x.safe(a[0], a[1]);
            default: return makeOther(x, name, a);
        }
    }

    private static long makeOther(RideTie x, String name, int... a) {
        switch (name) {
            case "best": return x.best(a[0], a[1], a[2], a[3]);
            case "row": return x.row(a[0], a[1], a[2], a[3], a[4]);
            case "cost": return x.cost(a[0]);
            case "fewest": return x.fewest(a[0]);
            case "rows": return x.rows(a[0]);
            case "even": return x.even(a[0], a[1]);
            case "share": return x.share(a[0], a[1], a[2]);
            case "sheet": return x.sheet(a[0], a[1], a[2]);
            case "lose": return x.lose(a[0]);
            case "put": return x.put(a[0], a[1], a[2]);
            case "cell": return x.cell(a[0], a[1], a[2]);
            case "copy": return x.copy(a[0], a[1], a[2], a[3], a[4]);
            case "tell": return x.tell(a[0]);
            case "call": return x.call(a[0]);
            case "as": return x.as(a[0], a[1]);
            case "trace": return x.trace();
            case "fault": return x.fault();
            default: return x.many(a[0]);
        }
    }
}
