/** Calls that are refused: they change nothing, and of several exceptions the one documented first is thrown. */
final class RefusalBoundaries extends Boundaries {
    private static final String TERMS = "Terms";
    /** The spans that the brokers here may have reserved units in. */
    private static final int[][] SPANS = {{0, 9}, {1, 9}, {50, 60}, {0, 1}, {0, 2}, {0, 3}, {0, 4}, {0, 5}};

    /** Makes the same broker each time, in less than 120 calls. */
    private interface Making {
        FairquotaBroker broker();
    }

    private interface Refused {
        Object by(FairquotaBroker x);
    }

    private Making making;
    private String untouched;

    RefusalBoundaries(Sentences sentences) {
        super(sentences);
    }

    @Override
    void checkAll() {
        about(TERMS, "A method that throws an exception changes nothing.");
        with(RefusalBoundaries::busy);
        refusedForTeams();
        refusedForSettings();
        refusedForJobs();
        refusedForReservations();
        refusedQuestions();
        with(RefusalBoundaries::full);
        refusedWhenFull();
        with(RefusalBoundaries::empty);
        refusedWhenEmpty();
        about(TERMS, "If several exceptions apply, the one that is documented first is thrown.");
        with(RefusalBoundaries::full);
        firstOfSeveralForTeams();
        firstOfSeveralForJobs();
        firstOfSeveralForReservations();
        with(RefusalBoundaries::busy);
        firstOfSeveralForClaimedTeams();
    }

    /** The team 1 has the children 3 and 4, the leaf 5 has nothing; jobs 0 to 5 are e, r, w, c, r, w. */
    private static FairquotaBroker busy() {
        FairquotaBroker x = leaves(3, 1);
        x.addTeam(1, 2);
        x.addTeam(1, 5);
        x.addTeam(0, 4);
        x.setLimit(4, 30);
        x.setHalfTime(3);
        x.submit(2, 6, 1);
        x.submit(3, 7, 9);
        x.submit(3, 15, 9);
        x.cancel(x.submit(4, 60, 9));
        x.pass(1);
        x.submit(4, 8, 9);
        x.submit(2, 14, 2);
        x.reserve(2, 3, 1, 9);
        for (int i = 0; i < 3; i++) x.reserve(3, 60, 50, 60);
        return x;
    }

    /** 10 teams, all but the root and the team 1 leaves; 40 jobs that wait or run; 8 reservations. */
    private static FairquotaBroker full() {
        FairquotaBroker x = leaves(1);
        for (int team = 2; team < 10; team++) x.addTeam(team % 2, team);
        for (int i = 0; i < 40; i++) x.submit(2 + i % 8, 1 + i % 6, 1 + i % 4);
        for (int i = 0; i < 8; i++) x.reserve(2, i + 1, SPANS[i][0], SPANS[i][1]);
        return x;
    }

    /** A capacity of 0, and no job. */
    private static FairquotaBroker empty() {
        return withCapacity(0, 1, 1);
    }

    private void with(Making made) {
        making = made;
        untouched = story(made.broker());
    }

    private void refused(String what, Class<? extends RuntimeException> kind, Refused call) {
        FairquotaBroker x = making.broker();
        refuses(what, kind, () -> call.by(x));
        is(what + " leaves all as it was", story(x), untouched);
    }

    /** All that a broker answers, now and to changes; some 370 calls, that use it up. */
    private static String story(FairquotaBroker x) {
        StringBuilder text = new StringBuilder();
        int teams = x.teams();
        int jobs = x.jobs();
        text.append(teams).append(' ').append(jobs).append(' ').append(x.tick()).append(' ').append(x.isFair());
        tell(text, () -> x.usedShare());
        tell(text, () -> x.meanStops());
        text.append("\nline ").append(line(x)).append("\nstops ").append(stops(x));
        for (int team = 0; team < teams; team++) tellTeam(text, x, team);
        for (int job = 0; job < jobs; job++) tellJob(text, x, job);
        tellSettings(text, x, teams);
        for (int[] span : SPANS) {
            tell(text, () -> x.drop(2, span[0], span[1]));
            tell(text, () -> x.drop(3, span[0], span[1]));
        }
        tell(text, () -> x.pass(1));
        return text.append("\nthen ").append(states(x)).toString();
    }

    private static void tell(StringBuilder text, Check.Call call) {
        text.append(' ').append(Check.answerOf(call));
    }

    private static void tellTeam(StringBuilder text, FairquotaBroker x, int team) {
        text.append("\nteam ").append(team);
        tell(text, () -> x.children(team));
        tell(text, () -> x.running(team));
        tell(text, () -> x.demand(team));
        tell(text, () -> x.share(team));
        tell(text, () -> x.shareByLevels(team));
        tell(text, () -> x.due(team));
        tell(text, () -> x.freeFor(team));
        tell(text, () -> x.use(team));
        tell(text, () -> x.reserved(team));
        tell(text, () -> x.firstOf(team));
        tell(text, () -> x.parentOf(team));
    }

    private static void tellJob(StringBuilder text, FairquotaBroker x, int job) {
        text.append("\njob ").append(job);
        tell(text, () -> x.stateOf(job));
        tell(text, () -> x.toGo(job));
    }

    /** Each of these answers what was before, and addTeam whether the team has had jobs or reservations. */
    private static void tellSettings(StringBuilder text, FairquotaBroker x, int teams) {
        text.append("\nsettings");
        for (int team = 0; team < teams; team++) {
            int changed = team;
            tell(text, () -> x.setWeight(changed, 9));
            tell(text, () -> x.setLimit(changed, 0));
            if (teams < 10) tell(text, () -> x.addTeam(changed, 1));
        }
        tell(text, () -> x.setCapacity(200));
        tell(text, () -> x.setHalfTime(1));
    }

    private void refusedForTeams() {
        is("the broker here has all kinds of jobs", states(making.broker()), "erwcrw");
        refused("addTeam to no team", OUT, x -> x.addTeam(6, 1));
        refused("addTeam to team -1", OUT, x -> x.addTeam(-1, 1));
        refused("addTeam with weight 0", ARGUMENT, x -> x.addTeam(5, 0));
        refused("addTeam with weight 10", ARGUMENT, x -> x.addTeam(5, 10));
        refused("addTeam to one that has had jobs", STATE, x -> x.addTeam(4, 1));
        refused("parentOf the root", UNSUPPORTED, x -> x.parentOf(0));
        refused("parentOf no team", OUT, x -> x.parentOf(6));
        refused("children of no team", OUT, x -> x.children(6));
    }

    private void refusedForSettings() {
        refused("setWeight of no team", OUT, x -> x.setWeight(6, 1));
        refused("setWeight of the root", UNSUPPORTED, x -> x.setWeight(0, 9));
        refused("setWeight to 0", ARGUMENT, x -> x.setWeight(2, 0));
        refused("setWeight to 10", ARGUMENT, x -> x.setWeight(2, 10));
        refused("setLimit of no team", OUT, x -> x.setLimit(6, 1));
        refused("setLimit of the root", UNSUPPORTED, x -> x.setLimit(0, 1));
        refused("setLimit to -1", ARGUMENT, x -> x.setLimit(4, -1));
        refused("setLimit to 501", ARGUMENT, x -> x.setLimit(4, 501));
        refused("setCapacity to -1", ARGUMENT, x -> x.setCapacity(-1));
        refused("setCapacity to 201", ARGUMENT, x -> x.setCapacity(201));
        refused("setCapacity to one less than is run", STATE, x -> x.setCapacity(x.running(0) - 1));
        refused("setHalfTime to 0", ARGUMENT, x -> x.setHalfTime(0));
        refused("setHalfTime to 101", ARGUMENT, x -> x.setHalfTime(101));
    }

    private void refusedForJobs() {
        refused("submit to no team", OUT, x -> x.submit(6, 1, 1));
        refused("submit with size 0", ARGUMENT, x -> x.submit(5, 0, 1));
        refused("submit with size 61", ARGUMENT, x -> x.submit(5, 61, 1));
        refused("submit with ticks 0", ARGUMENT, x -> x.submit(5, 1, 0));
        refused("submit with ticks 51", ARGUMENT, x -> x.submit(5, 1, 51));
        refused("submit to one with children", UNSUPPORTED, x -> x.submit(1, 1, 1));
        refused("cancel no job", MISSING, x -> x.cancel(6));
        refused("cancel job -1", MISSING, x -> x.cancel(-1));
        refused("cancel one that has ended", STATE, x -> x.cancel(0));
        refused("cancel one that was cancelled", STATE, x -> x.cancel(3));
        refused("pass 0 ticks", ARGUMENT, x -> x.pass(0));
        refused("pass 21 ticks", ARGUMENT, x -> x.pass(21));
        refused("stateOf no job", MISSING, x -> x.stateOf(6));
        refused("toGo of no job", MISSING, x -> x.toGo(6));
        refused("toGo of one that has ended", STATE, x -> x.toGo(0));
        refused("stops of no job", MISSING, x -> x.stops(6));
        refused("firstOf no team", OUT, x -> x.firstOf(6));
        refused("firstOf one with children", UNSUPPORTED, x -> x.firstOf(1));
        refused("firstOf one where none waits", MISSING, x -> x.firstOf(4));
        refused("inLine beyond the line", MISSING, x -> x.inLine(2));
    }

    private void refusedForReservations() {
        refused("reserve for no team", OUT, x -> x.reserve(6, 1, 1, 9));
        refused("reserve 0 units", ARGUMENT, x -> x.reserve(5, 0, 1, 9));
        refused("reserve 61 units", ARGUMENT, x -> x.reserve(5, 61, 1, 9));
        refused("reserve from -1", ARGUMENT, x -> x.reserve(5, 1, -1, 9));
        refused("reserve to the first tick", ARGUMENT, x -> x.reserve(5, 1, 1, 1));
        refused("reserve to 10000", ARGUMENT, x -> x.reserve(5, 1, 1, 10000));
        refused("reserve 201 in sum", ARGUMENT, x -> x.reserve(3, 21, 50, 60));
        refused("reserve for one with children", UNSUPPORTED, x -> x.reserve(1, 1, 1, 9));
        refused("drop for another leaf", MISSING, x -> x.drop(3, 1, 9));
        refused("drop another span", MISSING, x -> x.drop(2, 1, 8));
        refused("reserved for no team", OUT, x -> x.reserved(6));
        refused("reserved for one with children", UNSUPPORTED, x -> x.reserved(1));
    }

    private void refusedQuestions() {
        refused("running of no team", OUT, x -> x.running(6));
        refused("demand of no team", OUT, x -> x.demand(6));
        refused("share of no team", OUT, x -> x.share(6));
        refused("shareByLevels of no team", OUT, x -> x.shareByLevels(6));
        refused("due of no team", OUT, x -> x.due(6));
        refused("due of one with children", UNSUPPORTED, x -> x.due(1));
        refused("freeFor no team", OUT, x -> x.freeFor(6));
        refused("freeFor one with children", UNSUPPORTED, x -> x.freeFor(1));
        refused("use of no team", OUT, x -> x.use(6));
        refused("use of one with children", UNSUPPORTED, x -> x.use(1));
    }

    private void refusedWhenFull() {
        refused("addTeam to 10 teams", STATE, x -> x.addTeam(0, 1));
        refused("submit to 40 jobs", STATE, x -> x.submit(2, 1, 1));
        refused("reserve to 8 reservations", STATE, x -> x.reserve(3, 1, 0, 9));
    }

    private void refusedWhenEmpty() {
        refused("usedShare of a capacity of 0", ARITHMETIC, x -> x.usedShare());
        refused("meanStops when none has ended", ARITHMETIC, x -> x.meanStops());
        refused("inLine of nobody", MISSING, x -> x.inLine(0));
        refused("cancel where no job is", MISSING, x -> x.cancel(0));
        refused("drop where nothing is reserved", MISSING, x -> x.drop(1, 0, 1));
    }

    private void firstOfSeveralForTeams() {
        refused("addTeam: no team, weight 0, 10 teams", OUT, x -> x.addTeam(10, 0));
        refused("addTeam: no team, 10 teams", OUT, x -> x.addTeam(10, 1));
        refused("addTeam: weight 0, 10 teams", ARGUMENT, x -> x.addTeam(0, 0));
        refused("addTeam: weight 10, 10 teams, jobs", ARGUMENT, x -> x.addTeam(2, 10));
        refused("setWeight: no team, weight 0", OUT, x -> x.setWeight(10, 0));
        refused("setWeight: root, weight 0", UNSUPPORTED, x -> x.setWeight(0, 0));
        refused("setWeight: root, weight 10", UNSUPPORTED, x -> x.setWeight(0, 10));
        refused("setLimit: no team, limit -1", OUT, x -> x.setLimit(10, -1));
        refused("setLimit: root, limit -1", UNSUPPORTED, x -> x.setLimit(0, -1));
        refused("setLimit: root, limit 501", UNSUPPORTED, x -> x.setLimit(0, 501));
        refused("setCapacity: -1, which is less than what is run", ARGUMENT, x -> x.setCapacity(-1));
    }

    private void firstOfSeveralForJobs() {
        refused("submit: no team, size 0, 40 jobs", OUT, x -> x.submit(10, 0, 1));
        refused("submit: no team, ticks 0, 40 jobs", OUT, x -> x.submit(10, 1, 0));
        refused("submit: no team, 40 jobs", OUT, x -> x.submit(10, 1, 1));
        refused("submit: size 0, children, 40 jobs", ARGUMENT, x -> x.submit(1, 0, 1));
        refused("submit: ticks 0, children, 40 jobs", ARGUMENT, x -> x.submit(1, 1, 0));
        refused("submit: size 61, 40 jobs", ARGUMENT, x -> x.submit(2, 61, 1));
        refused("submit: ticks 51, 40 jobs", ARGUMENT, x -> x.submit(2, 1, 51));
        refused("submit: children, 40 jobs", UNSUPPORTED, x -> x.submit(1, 1, 1));
        refused("firstOf: children, none waits", UNSUPPORTED, x -> x.firstOf(1));
        refused("firstOf: no team, none waits", OUT, x -> x.firstOf(10));
    }

    private void firstOfSeveralForReservations() {
        refused("reserve: no team, 0 units, 8 reservations", OUT, x -> x.reserve(10, 0, 0, 8));
        refused("reserve: no team, from -1, 8 reservations", OUT, x -> x.reserve(10, 1, -1, 8));
        refused("reserve: no team, an empty span, 8 reservations", OUT, x -> x.reserve(10, 1, 8, 8));
        refused("reserve: no team, 8 reservations", OUT, x -> x.reserve(10, 1, 0, 8));
        refused("reserve: 0 units, children, 8 reservations", ARGUMENT, x -> x.reserve(1, 0, 0, 8));
        refused("reserve: from -1, children, 8 reservations", ARGUMENT, x -> x.reserve(1, 1, -1, 8));
        refused("reserve: an empty span, children, 8 reservations", ARGUMENT, x -> x.reserve(1, 1, 8, 8));
        refused("reserve: to 10000, children, 8 reservations", ARGUMENT, x -> x.reserve(1, 1, 0, 10000));
        refused("reserve: 61 units, 8 reservations", ARGUMENT, x -> x.reserve(2, 61, 0, 8));
        refused("reserve: from -1, 8 reservations", ARGUMENT, x -> x.reserve(2, 1, -1, 8));
        refused("reserve: an empty span, 8 reservations", ARGUMENT, x -> x.reserve(2, 1, 8, 8));
        refused("reserve: to 10000, 8 reservations", ARGUMENT, x -> x.reserve(2, 1, 0, 10000));
        refused("reserve: children, 8 reservations", UNSUPPORTED, x -> x.reserve(1, 1, 0, 8));
    }

    private void firstOfSeveralForClaimedTeams() {
        refused("addTeam: weight 0, jobs", ARGUMENT, x -> x.addTeam(4, 0));
        refused("addTeam: weight 10, reservations", ARGUMENT, x -> x.addTeam(2, 10));
        refused("submit: size 0, children", ARGUMENT, x -> x.submit(1, 0, 1));
        refused("submit: ticks 51, children", ARGUMENT, x -> x.submit(1, 1, 51));
        refused("reserve: 0 units, children", ARGUMENT, x -> x.reserve(1, 0, 1, 9));
        refused("setCapacity: -1, less than what is run", ARGUMENT, x -> x.setCapacity(-1));
    }
}
