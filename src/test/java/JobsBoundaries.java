/** Promises 10 to 19. */
final class JobsBoundaries extends Boundaries {
    JobsBoundaries(Sentences sentences) {
        super(sentences);
    }

    @Override
    void checkAll() {
        submit();
        submitOutOfRange();
        submitTheFortyFirst();
        cancel();
        pass();
        tick();
        jobs();
        stateOf();
        toGo();
        stopsOfJobs();
        firstOf();
        inLine();
    }

    private void submit() {
        about("Promise 10", "Submits a job.");
        FairquotaBroker x = leaves(1, 1);
        x.submit(2, 20, 9);
        is("all units are idle", states(x), "r");
        x.submit(2, 1, 9);
        is("none is idle", states(x), "rw");
        about("Promise 10", "Returns the number of the job.");
        is("whatever the leaf", x.submit(1, 60, 9), 2);
        about("Promise 10", "Throws `IndexOutOfBoundsException` if there is no such team");
        refusesOtherTeams(x, team -> x.submit(team, 1, 1));
        about("Promise 10", "Throws `UnsupportedOperationException` if the team has children");
        refuses("the root", UNSUPPORTED, () -> x.submit(0, 1, 1));
        FairquotaBroker y = leaves(1);
        y.addTeam(1, 1);
        refuses("one child", UNSUPPORTED, () -> y.submit(1, 1, 1));
        is("none", y.submit(2, 1, 1), 0);
        is("the root as long as it has none", new FairquotaBroker().submit(0, 1, 1), 0);
    }

    private void submitOutOfRange() {
        FairquotaBroker x = withCapacity(60);
        about("Promise 10", "`size`: its size, 1 to 60");
        is("60", x.submit(0, 60, 1), 0);
        is("starts in 60 units", states(x) + x.running(0), "r60");
        is("1", x.submit(0, 1, 1), 1);
        is("waits for 1", x.demand(0), 61);
        about("Promise 10", "`ticks`: its ticks, 1 to 50");
        FairquotaBroker y = new FairquotaBroker();
        is("50", y.submit(0, 5, 50), 0);
        is("1", y.submit(0, 5, 1), 1);
        y.pass(1);
        is("ends in 1 tick", states(y), "re");
        passTo(y, 49);
        is("not in 49", states(y) + y.toGo(0), "re1");
        y.pass(1);
        is("in 50", states(y), "ee");
        about("Promise 10", "Throws `IllegalArgumentException` if the size or the ticks are out of range");
        refuses("size 0", ARGUMENT, () -> x.submit(0, 0, 1));
        refuses("size 61", ARGUMENT, () -> x.submit(0, 61, 1));
        refuses("size -1", ARGUMENT, () -> x.submit(0, -1, 1));
        refuses("the least size of int", ARGUMENT, () -> x.submit(0, LEAST_INT, 1));
        refuses("the greatest size of int", ARGUMENT, () -> x.submit(0, MOST_INT, 1));
        refuses("ticks 0", ARGUMENT, () -> x.submit(0, 1, 0));
        refuses("ticks 51", ARGUMENT, () -> x.submit(0, 1, 51));
        refuses("ticks -1", ARGUMENT, () -> x.submit(0, 1, -1));
        refuses("the least ticks of int", ARGUMENT, () -> x.submit(0, 1, LEAST_INT));
        refuses("the greatest ticks of int", ARGUMENT, () -> x.submit(0, 1, MOST_INT));
        is("no job by them", x.jobs(), 2);
    }

    private void submitTheFortyFirst() {
        about("Promise 10", "Throws `IllegalStateException` if 40 jobs wait or run");
        FairquotaBroker x = leaves(1, 1);
        submitTimes(x, 39, 1, 1, 2);
        is("39 wait or run", x.submit(1, 1, 2), 39);
        is("20 run, 20 wait", states(x), "r".repeat(20) + "w".repeat(20));
        refuses("40 wait or run", STATE, () -> x.submit(1, 1, 2));
        refuses("of another leaf", STATE, () -> x.submit(2, 1, 2));
        x.cancel(39);
        is("one that waited was cancelled", x.submit(1, 1, 2), 40);
        refuses("40 again", STATE, () -> x.submit(1, 1, 2));
        x.cancel(0);
        is("one that ran was cancelled", x.submit(2, 1, 2), 41);
        refuses("and 40 again", STATE, () -> x.submit(1, 1, 2));
        x.pass(1);
        refuses("one tick before they end", STATE, () -> x.submit(1, 1, 2));
        is("they end", x.pass(1) > 0, true);
        is("some have ended", x.submit(1, 1, 2), 42);
        FairquotaBroker all = withCapacity(200);
        submitTimes(all, 40, 0, 5, 1);
        is("all run", states(all), "r".repeat(40));
        refuses("40 run", STATE, () -> all.submit(0, 1, 1));
        FairquotaBroker none = withCapacity(0);
        submitTimes(none, 40, 0, 60, 1);
        is("all wait", states(none), "w".repeat(40));
        refuses("40 wait", STATE, () -> none.submit(0, 1, 1));
    }

    private void cancel() {
        about("Promise 11", "Cancels a job.");
        FairquotaBroker x = new FairquotaBroker();
        x.submit(0, 20, 2);
        x.submit(0, 20, 2);
        x.submit(0, 20, 2);
        x.cancel(1);
        is("one that waits", states(x), "rcw");
        x.cancel(0);
        is("one that runs", states(x), "ccr");
        x.pass(2);
        is("it is not started again", states(x), "cce");
        about("Promise 11", "Returns the units that become unused by this, 0 if it waits.");
        FairquotaBroker y = leaves(1, 1);
        y.submit(1, 19, 9);
        y.submit(1, 2, 9);
        is("it waits", y.cancel(1), 0);
        is("it runs", y.cancel(0), 19);
        y.submit(1, 20, 9);
        y.submit(1, 20, 9);
        is("though others use them at once", y.cancel(2), 20);
        y.submit(2, 10, 9);
        is("it was stopped", y.stops(3) + y.cancel(3), 1);
        about("Promise 11", "Throws `NoSuchElementException` if there is no such job");
        refusesOtherJobs(y, job -> y.cancel(job));
        FairquotaBroker none = new FairquotaBroker();
        refusesOtherJobs(none, job -> none.cancel(job));
        about("Promise 11", "Throws `IllegalStateException` if it neither waits nor runs");
        refuses("it was cancelled while it ran", STATE, () -> y.cancel(0));
        refuses("it was cancelled while it waited", STATE, () -> y.cancel(1));
        refuses("it has ended", STATE, () -> x.cancel(2));
        FairquotaBroker z = new FairquotaBroker();
        z.submit(0, 1, 2);
        z.pass(1);
        is("one tick before it ends", z.cancel(0), 1);
    }

    private void pass() {
        about("Promise 12", "Lets ticks pass.");
        FairquotaBroker x = new FairquotaBroker();
        x.submit(0, 1, 50);
        x.pass(3);
        is("three", x.tick() + " " + x.toGo(0) + " " + x.use(0), "3 47 3");
        about("Promise 12", "`ticks`: the number of ticks, 1 to 20");
        x.pass(1);
        is("1", x.tick(), 4);
        x.pass(20);
        is("20", x.tick(), 24);
        about("Promise 12", "Returns the number of jobs that end.");
        FairquotaBroker y = withCapacity(2);
        is("no job", y.pass(1), 0);
        submitTimes(y, 40, 0, 1, 1);
        is("in one tick", y.pass(1), 2);
        is("in all of them, those that start in between too", y.pass(18), 36);
        is("no more than there are", y.pass(20), 2);
        is("none is left", y.pass(20), 0);
        y.submit(0, 1, 20);
        y.submit(0, 1, 21);
        is("20 ticks to go, and 21", y.pass(20), 1);
        y.cancel(y.submit(0, 1, 1));
        is("not those that were cancelled", y.pass(1), 1);
        about("Promise 12", "Throws `IllegalArgumentException` if the number is out of range");
        refuses("0", ARGUMENT, () -> y.pass(0));
        refuses("21", ARGUMENT, () -> y.pass(21));
        refuses("-1", ARGUMENT, () -> y.pass(-1));
        refuses("the least int", ARGUMENT, () -> y.pass(LEAST_INT));
        refuses("the greatest int", ARGUMENT, () -> y.pass(MOST_INT));
    }

    private void tick() {
        about("Promise 13", "Returns the number of the tick.");
        FairquotaBroker x = new FairquotaBroker();
        is("at first", x.tick(), 0);
        x.submit(0, 1, 1);
        x.cancel(0);
        is("other calls let none pass", x.tick(), 0);
        about("Promise 13", "Returns the number of ticks that have passed.");
        x.pass(20);
        x.pass(1);
        is("of all calls", x.tick(), 21);
        refuses("a call that is refused", ARGUMENT, () -> x.pass(21));
        is("lets none pass", x.tick(), 21);
    }

    private void jobs() {
        about("Promise 14", "Returns the number of jobs that were submitted.");
        FairquotaBroker x = leaves(1, 1);
        is("none", x.jobs(), 0);
        x.submit(2, 60, 1);
        is("one that waits", x.jobs(), 1);
        refuses("one that is refused", ARGUMENT, () -> x.submit(2, 61, 1));
        about("Promise 14", "Returns the number of jobs.");
        is("does not count", x.jobs(), 1);
        x.submit(1, 1, 1);
        x.cancel(0);
        x.pass(1);
        is("cancelled ones and ended ones do", x.jobs(), 2);
    }

    private void stateOf() {
        about("Promise 15", "Returns the state of a job.");
        FairquotaBroker x = leaves(1, 1);
        x.submit(1, 20, 1);
        x.submit(1, 20, 2);
        x.submit(1, 20, 9);
        x.submit(1, 20, 9);
        x.cancel(3);
        is("at first", states(x), "rwwc");
        about("Promise 15", "Returns 'w', 'r', 'e' or 'c'.");
        x.pass(1);
        is("an end, a start", states(x), "erwc");
        x.submit(2, 10, 1);
        is("a stop", states(x), "ewwcr");
        x.pass(1);
        is("a start anew", states(x), "erwce");
        about("Promise 15", "Throws `NoSuchElementException` if there is no such job");
        refusesOtherJobs(x, job -> x.stateOf(job));
        FairquotaBroker none = new FairquotaBroker();
        refusesOtherJobs(none, job -> none.stateOf(job));
    }

    private void toGo() {
        about("Promise 16", "Returns the ticks that a job has to go.");
        FairquotaBroker x = leaves(1, 1);
        x.submit(1, 20, 50);
        is("just started", x.toGo(0), 50);
        x.pass(20);
        x.pass(20);
        x.pass(9);
        is("in its last tick", x.toGo(0), 1);
        about("Promise 16", "Returns the ticks to go; all its ticks, if it waits.");
        x.submit(2, 11, 1);
        is("not started yet", x.toGo(1), 1);
        x.reserve(2, 11, 49, 50);
        is("stopped in its last tick", states(x) + x.toGo(0), "wr50");
        x.pass(1);
        is("started anew", states(x) + x.toGo(0), "re50");
        x.pass(1);
        is("one less", x.toGo(0), 49);
        about("Promise 16", "Throws `NoSuchElementException` if there is no such job");
        refusesOtherJobs(x, job -> x.toGo(job));
        FairquotaBroker none = new FairquotaBroker();
        refusesOtherJobs(none, job -> none.toGo(job));
        about("Promise 16", "Throws `IllegalStateException` if it neither waits nor runs");
        refuses("it has ended", STATE, () -> x.toGo(1));
        x.cancel(0);
        refuses("it was cancelled while it ran", STATE, () -> x.toGo(0));
        x.submit(1, 60, 7);
        is("it waits", x.toGo(2), 7);
        x.cancel(2);
        refuses("it was cancelled while it waited", STATE, () -> x.toGo(2));
    }

    private void stopsOfJobs() {
        about("Promise 17", "Returns how often a job was stopped.");
        FairquotaBroker x = leaves(1, 1);
        x.submit(1, 20, 2);
        is("never", x.stops(0), 0);
        about("Promise 17", "Returns the number of times.");
        for (int times = 1; times <= 3; times++) {
            x.submit(2, 10, 1);
            is("stopped " + times, x.stateOf(0) + "" + x.stops(0), "w" + times);
            x.pass(1);
            is("started again", x.stateOf(0) + "" + x.stops(0), "r" + times);
        }
        x.submit(2, 11, 1);
        is("not by a job that waits", x.stops(0) + "" + x.stops(4), "30");
        x.cancel(4);
        x.pass(2);
        is("it has ended", x.stateOf(0) + "" + x.stops(0), "e3");
        x.submit(1, 20, 2);
        x.submit(2, 10, 1);
        x.cancel(5);
        is("it was cancelled", x.stateOf(5) + "" + x.stops(5), "c1");
        x.cancel(6);
        is("a cancel is no stop", x.stateOf(6) + "" + x.stops(6), "c0");
        about("Promise 17", "Throws `NoSuchElementException` if there is no such job");
        refusesOtherJobs(x, job -> x.stops(job));
        FairquotaBroker none = new FairquotaBroker();
        refusesOtherJobs(none, job -> none.stops(job));
    }

    private void firstOf() {
        about("Promise 18", "Returns the first job of a leaf.");
        FairquotaBroker x = leaves(1, 1);
        x.submit(1, 20, 9);
        x.submit(2, 60, 9);
        x.submit(1, 6, 9);
        x.submit(1, 5, 9);
        is("the lower one of two that wait", x.firstOf(1), 2);
        about("Promise 18", "Returns the number of the job.");
        is("of another leaf", x.firstOf(2), 1);
        x.cancel(1);
        x.submit(2, 1, 9);
        is("one that was stopped, lower than all that never started", x.firstOf(1), 0);
        about("Promise 18", "Throws `IndexOutOfBoundsException` if there is no such team");
        refusesOtherTeams(x, team -> x.firstOf(team));
        about("Promise 18", "Throws `UnsupportedOperationException` if it has children");
        refuses("the root", UNSUPPORTED, () -> x.firstOf(0));
        FairquotaBroker y = leaves(1);
        y.addTeam(1, 1);
        y.submit(2, 60, 9);
        refuses("though a job below it waits", UNSUPPORTED, () -> y.firstOf(1));
        is("its child has none", y.firstOf(2), 0);
        about("Promise 18", "Throws `NoSuchElementException` if no job of it waits");
        refuses("all run", MISSING, () -> x.firstOf(2));
        FairquotaBroker z = new FairquotaBroker();
        refuses("no job", MISSING, () -> z.firstOf(0));
        z.submit(0, 20, 1);
        z.submit(0, 20, 1);
        is("one waits", z.firstOf(0), 1);
        z.pass(1);
        refuses("it runs", MISSING, () -> z.firstOf(0));
        z.submit(0, 20, 1);
        z.cancel(2);
        refuses("it was cancelled", MISSING, () -> z.firstOf(0));
    }

    private void inLine() {
        about("Promise 19", "Returns a leaf of the line.");
        FairquotaBroker x = leaves(1, 1, 1, 1, 1, 1, 1, 1, 1);
        x.setCapacity(0);
        for (int team = 9; team >= 1; team--) x.submit(team, 1, 1);
        is("the longest line", line(x), "123456789");
        about("Promise 19", "Returns the number of the leaf.");
        is("not of its first job", x.inLine(4), 5);
        about("Promise 19", "`rank`: its rank in the line, 0 for the first one");
        is("0", x.inLine(0), 1);
        is("the last one", x.inLine(8), 9);
        x.submit(3, 1, 1);
        is("a leaf stands in it once, however many wait", line(x), "123456789");
        x.cancel(0);
        is("one less", line(x), "12345678");
        about("Promise 19", "Throws `NoSuchElementException` if there is no such rank");
        is("the last rank", x.inLine(7), 8);
        refuses("one more", MISSING, () -> x.inLine(8));
        refuses("-1", MISSING, () -> x.inLine(-1));
        refuses("the least int", MISSING, () -> x.inLine(LEAST_INT));
        refuses("the greatest int", MISSING, () -> x.inLine(MOST_INT));
        FairquotaBroker y = new FairquotaBroker();
        refuses("none waits", MISSING, () -> y.inLine(0));
        y.submit(0, 20, 9);
        refuses("one runs", MISSING, () -> y.inLine(0));
        y.submit(0, 1, 9);
        is("one waits", y.inLine(0), 0);
        refuses("one leaf", MISSING, () -> y.inLine(1));
    }
}
