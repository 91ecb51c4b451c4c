/** Long runs of calls, the same ones each time, whose answers must be those of NaiveBroker. */
public final class ModelTest {
    private static final int RUNS = 400;
    private static final int CALLS = 512;

    private final Check check = new Check();
    private long seed = 20261119;
    private FairquotaBroker got;
    private NaiveBroker due;
    /** How many calls the object has had: what more than 512 would answer is free. */
    private int calls;
    /** What the run is given to: small or large numbers, flat or deep trees. */
    private int mostSize;
    private int mostCapacity;
    private boolean deep;

    public static void main(String[] args) {
        ModelTest test = new ModelTest();
        for (int run = 0; run < RUNS; run++) test.run(run);
        test.check.end("ModelTest");
    }

    private int below(int bound) {
        seed = seed * 6364136223846793005L + 1442695040888963407L;
        return (int) Math.floorMod(seed >>> 33, (long) bound);
    }

    private void run(int run) {
        got = new FairquotaBroker();
        due = new NaiveBroker();
        calls = 0;
        mostSize = new int[] {4, 8, 15, 60}[below(4)];
        mostCapacity = new int[] {10, 20, 60, 200}[below(4)];
        deep = below(2) == 0;
        int grown = below(10);
        for (int i = 0; i < grown; i++) addTeam(run);
        for (int i = 0; i < CALLS && calls < CALLS; i++) {
            if (below(2) == 0) change(run); else ask(run);
        }
    }

    private void same(int run, String what, Check.Call answer, Check.Call model) {
        if (calls >= CALLS) return;
        calls++;
        check.is("run " + run + ": " + what, Check.answerOf(answer), Check.answerOf(model));
    }

    private void addTeam(int run) {
        int parent = deep ? Math.max(0, due.teams() - 1 - below(3)) : below(3) == 0 ? below(due.teams() + 1) : 0;
        int weight = below(20) == 0 ? below(12) : 1 + below(9);
        same(run, "addTeam(" + parent + ", " + weight + ")",
                () -> got.addTeam(parent, weight), () -> due.addTeam(parent, weight));
    }

    private int someTeam() {
        if (below(30) == 0) return below(13) - 1;
        return below(due.teams());
    }

    private int someLeaf() {
        int team = someTeam();
        for (int i = 0; i < 5 && team >= 0 && team < due.teams() && due.children(team) > 0; i++) team = someTeam();
        return team;
    }

    private int someJob() {
        if (due.jobs() > 0 && below(2) == 0) return Math.max(0, due.jobs() - 1 - below(12));
        return below(due.jobs() + 2) - 1;
    }

    private void change(int run) {
        int kind = below(40);
        if (kind < 20) submit(run);
        else if (kind < 24) cancel(run);
        else if (kind < 29) pass(run);
        else if (kind < 32) reserve(run);
        else if (kind < 34) drop(run);
        else if (kind == 34) addTeam(run);
        else set(run, kind);
    }

    private void submit(int run) {
        int team = someLeaf();
        int size = below(30) == 0 ? below(63) : 1 + below(mostSize);
        int ticks = below(30) == 0 ? below(53) : 1 + below(20);
        same(run, "submit(" + team + ", " + size + ", " + ticks + ")",
                () -> got.submit(team, size, ticks), () -> due.submit(team, size, ticks));
    }

    private void cancel(int run) {
        int job = someJob();
        same(run, "cancel(" + job + ")", () -> got.cancel(job), () -> due.cancel(job));
    }

    private void pass(int run) {
        int ticks = below(30) == 0 ? below(23) : 1 + below(4);
        same(run, "pass(" + ticks + ")", () -> got.pass(ticks), () -> due.pass(ticks));
    }

    private void reserve(int run) {
        int team = someLeaf();
        int units = below(10) == 0 ? below(63) : 1 + below(mostSize);
        int from = below(10) == 0 ? below(10002) - 1 : Math.max(0, due.tick() - 2 + below(5));
        int to = below(10) == 0 ? below(10002) - 1 : from + below(8);
        int again = below(10) == 0 ? 5 : 1;
        for (int i = 0; i < again; i++) {
            same(run, "reserve(" + team + ", " + units + ", " + from + ", " + to + ")",
                    () -> got.reserve(team, units, from, to), () -> due.reserve(team, units, from, to));
        }
    }

    /** Sweeps a few likely spans, so that some are there. */
    private void drop(int run) {
        int team = someLeaf();
        int from = Math.max(0, due.tick() - below(9));
        for (int length = 1; length < 5; length++) {
            int to = from + length;
            same(run, "drop(" + team + ", " + from + ", " + to + ")",
                    () -> got.drop(team, from, to), () -> due.drop(team, from, to));
        }
    }

    private void set(int run, int kind) {
        int team = someTeam();
        if (kind == 35 || kind == 36) {
            int weight = below(12);
            same(run, "setWeight(" + team + ", " + weight + ")",
                    () -> got.setWeight(team, weight), () -> due.setWeight(team, weight));
        } else if (kind == 37) {
            int limit = below(4) == 0 ? below(504) - 1 : below(mostCapacity);
            same(run, "setLimit(" + team + ", " + limit + ")",
                    () -> got.setLimit(team, limit), () -> due.setLimit(team, limit));
        } else if (kind == 38) {
            int units = below(10) == 0 ? below(204) - 1 : below(mostCapacity);
            same(run, "setCapacity(" + units + ")", () -> got.setCapacity(units), () -> due.setCapacity(units));
        } else {
            int ticks = below(10) == 0 ? below(103) : 1 + below(6);
            same(run, "setHalfTime(" + ticks + ")", () -> got.setHalfTime(ticks), () -> due.setHalfTime(ticks));
        }
    }

    private void ask(int run) {
        int kind = below(22);
        if (kind < 8) askJobs(run, kind); else askTeams(run, kind);
    }

    private void askJobs(int run, int kind) {
        int job = someJob();
        int rank = below(6) - 1;
        if (kind < 2) same(run, "stateOf(" + job + ")", () -> got.stateOf(job), () -> due.stateOf(job));
        else if (kind == 2) same(run, "toGo(" + job + ")", () -> got.toGo(job), () -> due.toGo(job));
        else if (kind == 3) same(run, "stops(" + job + ")", () -> got.stops(job), () -> due.stops(job));
        else if (kind < 6) same(run, "inLine(" + rank + ")", () -> got.inLine(rank), () -> due.inLine(rank));
        else if (kind == 6) same(run, "meanStops()", () -> got.meanStops(), () -> due.meanStops());
        else {
            same(run, "jobs()", () -> got.jobs(), () -> due.jobs());
            same(run, "tick()", () -> got.tick(), () -> due.tick());
        }
    }

    private void askTeams(int run, int kind) {
        int team = someLeaf();
        int any = someTeam();
        if (kind == 8) same(run, "firstOf(" + team + ")", () -> got.firstOf(team), () -> due.firstOf(team));
        else if (kind == 9) same(run, "reserved(" + team + ")", () -> got.reserved(team), () -> due.reserved(team));
        else if (kind < 12) same(run, "running(" + any + ")", () -> got.running(any), () -> due.running(any));
        else if (kind == 12) same(run, "demand(" + any + ")", () -> got.demand(any), () -> due.demand(any));
        else if (kind == 13) same(run, "share(" + any + ")", () -> got.share(any), () -> due.share(any));
        else if (kind == 14) same(run, "shareByLevels(" + any + ")",
                () -> got.shareByLevels(any), () -> due.shareByLevels(any));
        else if (kind == 15) same(run, "due(" + team + ")", () -> got.due(team), () -> due.due(team));
        else if (kind == 16) same(run, "freeFor(" + team + ")", () -> got.freeFor(team), () -> due.freeFor(team));
        else if (kind == 17) same(run, "use(" + team + ")", () -> got.use(team), () -> due.use(team));
        else if (kind == 18) same(run, "usedShare()", () -> got.usedShare(), () -> due.usedShare());
        else if (kind == 19) same(run, "isFair()", () -> got.isFair(), () -> due.isFair());
        else if (kind == 20) same(run, "parentOf(" + any + ")", () -> got.parentOf(any), () -> due.parentOf(any));
        else {
            same(run, "children(" + any + ")", () -> got.children(any), () -> due.children(any));
            same(run, "teams()", () -> got.teams(), () -> due.teams());
        }
    }
}
