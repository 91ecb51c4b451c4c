/** Promises 1 to 9. */
final class TeamsBoundaries extends Boundaries {
    TeamsBoundaries(Sentences sentences) {
        super(sentences);
    }

    @Override
    void checkAll() {
        newObject();
        addTeam();
        addTeamToOneThatHadJobs();
        addTeamToOneThatHadReservations();
        setWeight();
        setLimit();
        setCapacity();
        setHalfTime();
        teams();
        parentOf();
        children();
    }

    private void newObject() {
        about("Promise 1", "Creates a broker with the team 0 alone, a capacity of 20 units and the half-time 10, at the tick 0.");
        FairquotaBroker x = new FairquotaBroker();
        is("teams", x.teams(), 1);
        is("children", x.children(0), 0);
        refuses("team 1", OUT, () -> x.running(1));
        is("tick", x.tick(), 0);
        is("jobs", x.jobs(), 0);
        x.submit(0, 20, 50);
        is("20 units", states(x), "r");
        x.reserve(0, 1, 0, 1);
        is("a span with the tick 0", x.reserved(0), 1);
        x.reserve(0, 2, 1, 2);
        is("a span from the tick 1", x.reserved(0), 1);
        x.pass(9);
        is("use at the tick 9", x.use(0), 180L);
        x.pass(1);
        is("use at the tick 10", x.use(0), 100L);
        x.pass(1);
        is("use at the tick 11", x.use(0), 120L);
        FairquotaBroker y = new FairquotaBroker();
        y.submit(0, 21, 50);
        is("21 units", states(y), "w");
        is("capacity", y.setCapacity(0), 20);
        is("half-time", y.setHalfTime(1), 10);
    }

    private void addTeam() {
        about("Promise 2", "Adds a team.");
        FairquotaBroker x = new FairquotaBroker();
        is("to the root", x.addTeam(0, 5), 1);
        is("to the last team", x.addTeam(1, 5), 2);
        is("there they are", x.teams() + " " + x.children(0) + x.children(1) + x.children(2), "3 110");
        about("Promise 2", "Returns the number of the team.");
        is("the next number, whatever the parent's", x.addTeam(0, 5), 3);
        is("its parent", x.parentOf(3), 0);
        about("Promise 2", "Throws `IndexOutOfBoundsException` if there is no such team");
        refusesOtherTeams(x, team -> x.addTeam(team, 5));
        about("Promise 2", "Throws `IllegalArgumentException` if the weight is out of range");
        refuses("weight 0", ARGUMENT, () -> x.addTeam(0, 0));
        refuses("weight 10", ARGUMENT, () -> x.addTeam(0, 10));
        refuses("weight -1", ARGUMENT, () -> x.addTeam(0, -1));
        refuses("the least int", ARGUMENT, () -> x.addTeam(0, LEAST_INT));
        refuses("the greatest int", ARGUMENT, () -> x.addTeam(0, MOST_INT));
        is("weight 1", x.addTeam(0, 1), 4);
        is("weight 9", x.addTeam(0, 9), 5);
        is("they are kept", x.setWeight(4, 5) * 10 + x.setWeight(5, 5), 19);
        about("Promise 2", "Throws `IllegalStateException` if there are 10 teams");
        for (int team = 6; team < 10; team++) is("there are " + team, x.addTeam(0, 5), team);
        refuses("there are 10", STATE, () -> x.addTeam(0, 5));
        refuses("another parent", STATE, () -> x.addTeam(9, 5));
        is("no more than 10", x.teams(), 10);
    }

    private void addTeamToOneThatHadJobs() {
        about("Promise 2", "or the parent has had jobs or reservations");
        FairquotaBroker x = leaves(1, 1, 1, 1, 1);
        x.submit(1, 1, 50);
        refuses("a job that runs", STATE, () -> x.addTeam(1, 1));
        x.submit(2, 60, 50);
        refuses("a job that waits", STATE, () -> x.addTeam(2, 1));
        x.submit(3, 1, 1);
        x.pass(1);
        refuses("a job that has ended", STATE, () -> x.addTeam(3, 1));
        x.cancel(x.submit(4, 1, 1));
        refuses("a job that was cancelled", STATE, () -> x.addTeam(4, 1));
        refuses("a job that is refused for its size", ARGUMENT, () -> x.submit(5, 0, 1));
        is("had none itself", x.addTeam(5, 1), 6);
        is("jobs of its children are not its own", x.addTeam(0, 1), 7);
        x.cancel(1);
        submitTimes(x, 39, 1, 1, 50);
        refuses("a job that is refused as there are 40", STATE, () -> x.submit(7, 1, 1));
        is("had none either", x.addTeam(7, 1), 8);
        FairquotaBroker root = new FairquotaBroker();
        root.submit(0, 1, 1);
        refuses("a job of the root", STATE, () -> root.addTeam(0, 1));
    }

    private void addTeamToOneThatHadReservations() {
        about("Promise 2", "the parent has had jobs or reservations");
        FairquotaBroker x = leaves(1, 1, 1, 1);
        x.reserve(1, 1, 0, 9);
        refuses("one that holds", STATE, () -> x.addTeam(1, 1));
        x.reserve(2, 1, 9, 10);
        refuses("one ahead", STATE, () -> x.addTeam(2, 1));
        x.reserve(3, 1, 0, 1);
        x.pass(1);
        refuses("one that is past", STATE, () -> x.addTeam(3, 1));
        x.drop(1, 0, 9);
        refuses("one that was dropped", STATE, () -> x.addTeam(1, 1));
        refuses("one that is refused for its units", ARGUMENT, () -> x.reserve(4, 0, 0, 1));
        for (int to = 1; to < 7; to++) x.reserve(1, 1, 0, to);
        refuses("one that is refused as there are 8", STATE, () -> x.reserve(4, 1, 0, 1));
        is("had none itself", x.addTeam(4, 1), 5);
        is("those of its children are not its own", x.addTeam(0, 1), 6);
        FairquotaBroker root = new FairquotaBroker();
        root.reserve(0, 1, 0, 1);
        refuses("one of the root", STATE, () -> root.addTeam(0, 1));
    }

    private void setWeight() {
        about("Promise 3", "Sets the weight of a team.");
        FairquotaBroker x = leaves(1, 2);
        x.addTeam(2, 3);
        x.addTeam(2, 4);
        x.submit(1, 60, 9);
        x.submit(3, 60, 9);
        is("before", shares(x), "7 13 13 0");
        x.setWeight(2, 9);
        is("after, of one with children", shares(x), "2 18 18 0");
        about("Promise 3", "Returns the weight before.");
        is("the one that was set", x.setWeight(2, 9), 9);
        is("the one that was added, of the last team", x.setWeight(3, 4), 3);
        about("Promise 3", "Throws `IndexOutOfBoundsException` if there is no such team");
        refusesOtherTeams(x, team -> x.setWeight(team, 5));
        about("Promise 3", "Throws `UnsupportedOperationException` if it is the root");
        refuses("team 0", UNSUPPORTED, () -> x.setWeight(0, 5));
        refuses("its own weight", UNSUPPORTED, () -> x.setWeight(0, 1));
        is("team 1", x.setWeight(1, 5), 1);
        FairquotaBroker leaf = new FairquotaBroker();
        refuses("the root as a leaf", UNSUPPORTED, () -> leaf.setWeight(0, 1));
        about("Promise 3", "Throws `IllegalArgumentException` if the weight is out of range");
        refuses("weight 0", ARGUMENT, () -> x.setWeight(1, 0));
        refuses("weight 10", ARGUMENT, () -> x.setWeight(1, 10));
        refuses("weight -1", ARGUMENT, () -> x.setWeight(1, -1));
        refuses("the least int", ARGUMENT, () -> x.setWeight(1, LEAST_INT));
        refuses("the greatest int", ARGUMENT, () -> x.setWeight(1, MOST_INT));
        is("weight 1", x.setWeight(1, 1), 5);
        is("weight 9", x.setWeight(1, 9), 1);
    }

    private void setLimit() {
        about("Promise 4", "Sets the limit of a team.");
        FairquotaBroker x = leaves(1, 1);
        x.addTeam(2, 1);
        x.submit(1, 6, 9);
        x.setLimit(1, 7);
        x.submit(1, 2, 9);
        is("one unit above it", states(x) + x.demand(1), "rw7");
        x.setLimit(1, 8);
        is("up to it", states(x) + x.demand(1), "rr8");
        x.setLimit(2, 3);
        x.submit(3, 4, 9);
        is("of one with children", states(x) + x.demand(2) + x.demand(3), "rrw34");
        about("Promise 4", "Returns the limit before.");
        is("at first", x.setLimit(3, 4), 500);
        is("the one that was set", x.setLimit(3, 4), 4);
        about("Promise 4", "Throws `IndexOutOfBoundsException` if there is no such team");
        refusesOtherTeams(x, team -> x.setLimit(team, 5));
        about("Promise 4", "Throws `UnsupportedOperationException` if it is the root");
        refuses("team 0", UNSUPPORTED, () -> x.setLimit(0, 500));
        is("team 1", x.setLimit(1, 500), 8);
        FairquotaBroker leaf = new FairquotaBroker();
        refuses("the root as a leaf", UNSUPPORTED, () -> leaf.setLimit(0, 500));
        about("Promise 4", "Throws `IllegalArgumentException` if the limit is out of range");
        refuses("limit -1", ARGUMENT, () -> x.setLimit(1, -1));
        refuses("limit 501", ARGUMENT, () -> x.setLimit(1, 501));
        refuses("the least int", ARGUMENT, () -> x.setLimit(1, LEAST_INT));
        refuses("the greatest int", ARGUMENT, () -> x.setLimit(1, MOST_INT));
        is("limit 0", x.setLimit(1, 0), 500);
        is("limit 500", x.setLimit(1, 500), 0);
    }

    private void setCapacity() {
        about("Promise 5", "Sets the capacity.");
        FairquotaBroker x = new FairquotaBroker();
        x.submit(0, 21, 9);
        is("before", states(x) + x.freeFor(0), "w20");
        x.setCapacity(21);
        is("after", states(x) + x.freeFor(0), "r0");
        about("Promise 5", "Returns the capacity before.");
        is("the one that was set", x.setCapacity(22), 21);
        is("the one at first", new FairquotaBroker().setCapacity(22), 20);
        about("Promise 5", "`units`: the capacity, 0 to 200");
        FairquotaBroker y = new FairquotaBroker();
        is("200", y.setCapacity(200), 20);
        is("0", y.setCapacity(0), 200);
        is("1", y.setCapacity(1), 0);
        about("Promise 5", "Throws `IllegalArgumentException` if the capacity is out of range");
        refuses("-1", ARGUMENT, () -> y.setCapacity(-1));
        refuses("201", ARGUMENT, () -> y.setCapacity(201));
        refuses("the least int", ARGUMENT, () -> y.setCapacity(LEAST_INT));
        refuses("the greatest int", ARGUMENT, () -> y.setCapacity(MOST_INT));
        is("it is as before", y.setCapacity(1), 1);
        about("Promise 5", "Throws `IllegalStateException` if it would be less than what the root runs");
        refuses("one less", STATE, () -> x.setCapacity(20));
        refuses("0", STATE, () -> x.setCapacity(0));
        is("as much", x.setCapacity(21), 22);
        x.submit(0, 60, 9);
        x.reserve(0, 60, 0, 9);
        is("what waits or is reserved does not count", x.setCapacity(21), 21);
        x.cancel(1);
        x.pass(9);
        is("when it has ended, 0", x.setCapacity(0), 21);
    }

    private void setHalfTime() {
        about("Promise 6", "Sets the half-time.");
        FairquotaBroker x = new FairquotaBroker();
        x.submit(0, 8, 50);
        x.pass(4);
        x.setHalfTime(5);
        is("nothing is divided by the call", x.use(0), 32L);
        x.pass(1);
        is("at its first tick", x.use(0), 20L);
        about("Promise 6", "Returns the half-time before.");
        is("the one that was set", x.setHalfTime(6), 5);
        is("the one at first", new FairquotaBroker().setHalfTime(6), 10);
        about("Promise 6", "`ticks`: the half-time, 1 to 100");
        FairquotaBroker y = new FairquotaBroker();
        is("100", y.setHalfTime(100), 10);
        submitTimes(y, 2, 0, 20, 50);
        passTo(y, 99);
        is("before the tick 100", y.use(0), 98L * 20);
        y.pass(1);
        is("at the tick 100, when nothing runs any more", y.use(0), 49L * 20);
        is("1", y.setHalfTime(1), 100);
        y.pass(2);
        is("each tick", y.use(0), 245L);
        about("Promise 6", "Throws `IllegalArgumentException` if the half-time is out of range");
        refuses("0", ARGUMENT, () -> y.setHalfTime(0));
        refuses("101", ARGUMENT, () -> y.setHalfTime(101));
        refuses("-1", ARGUMENT, () -> y.setHalfTime(-1));
        refuses("the least int", ARGUMENT, () -> y.setHalfTime(LEAST_INT));
        refuses("the greatest int", ARGUMENT, () -> y.setHalfTime(MOST_INT));
        is("it is as before", y.setHalfTime(1), 1);
    }

    private void teams() {
        about("Promise 7", "Returns the number of teams.");
        FairquotaBroker x = new FairquotaBroker();
        is("the least", x.teams(), 1);
        for (int team = 1; team < 10; team++) x.addTeam(0, 1);
        is("the most", x.teams(), 10);
        refuses("one more", STATE, () -> x.addTeam(0, 1));
        is("not by a call that is refused", x.teams(), 10);
    }

    private void parentOf() {
        about("Promise 8", "Returns the parent of a team.");
        FairquotaBroker x = leaves(1, 1);
        x.addTeam(2, 1);
        x.addTeam(3, 1);
        is("below the root", x.parentOf(1) * 10 + x.parentOf(2), 0);
        about("Promise 8", "Returns the number of the parent.");
        is("the next one up, not the root", x.parentOf(3) * 10 + x.parentOf(4), 23);
        about("Promise 8", "Throws `IndexOutOfBoundsException` if there is no such team");
        refusesOtherTeams(x, team -> x.parentOf(team));
        about("Promise 8", "Throws `UnsupportedOperationException` if it is the root");
        refuses("team 0", UNSUPPORTED, () -> x.parentOf(0));
        FairquotaBroker alone = new FairquotaBroker();
        refuses("the root alone", UNSUPPORTED, () -> alone.parentOf(0));
        is("team 1", x.parentOf(1), 0);
    }

    private void children() {
        about("Promise 9", "Returns the number of children of a team.");
        FairquotaBroker x = new FairquotaBroker();
        is("none", x.children(0), 0);
        x.addTeam(0, 1);
        x.addTeam(1, 1);
        x.addTeam(1, 1);
        about("Promise 9", "Returns the number of children.");
        is("not those of its children", x.children(0), 1);
        is("two", x.children(1), 2);
        is("the last team's", x.children(3), 0);
        FairquotaBroker y = leaves(1, 1, 1, 1, 1, 1, 1, 1, 1);
        is("the most", y.children(0), 9);
        about("Promise 9", "Throws `IndexOutOfBoundsException` if there is no such team");
        refusesOtherTeams(x, team -> x.children(team));
        refusesOtherTeams(y, team -> y.children(team));
    }
}
