/** The terms, from the teams to the use: what is counted, shared, reserved and free. */
final class TermsBoundaries extends Boundaries {
    private static final String TERMS = "Terms";

    TermsBoundaries(Sentences sentences) {
        super(sentences);
    }

    @Override
    void checkAll() {
        overview();
        teams();
        jobs();
        runningAndDemand();
        sharesOfTheRoot();
        sharesOfChildren();
        sharesOfTies();
        reservations();
        dues();
        free();
        use();
        lines();
    }

    private void overview() {
        about(TERMS, "Teams, jobs, ends and ticks come by calls; shares, queues and stops are asked.");
        FairquotaBroker x = leaves(1, 1);
        x.submit(1, 12, 2);
        x.submit(1, 8, 2);
        x.submit(2, 5, 2);
        is("before they are asked", states(x) + stops(x), "rwr010");
        x.share(1);
        x.shareByLevels(1);
        x.inLine(0);
        x.firstOf(1);
        x.stops(1);
        x.isFair();
        is("asking changes nothing", states(x) + stops(x), "rwr010");

        about(TERMS, "Shares are found unit by unit, and by filling levels.");
        is("unit by unit", shares(x), "15 5");
        is("by levels", sharesByLevels(x), "15 5");

        about(TERMS, "A team below its share waits only for what nobody may give.");
        FairquotaBroker y = leaves(1, 1, 1);
        y.submit(1, 10, 50);
        y.reserve(3, 1, 0, 50);
        y.submit(2, 10, 50);
        is("one unit is reserved, and the other leaf runs its due", states(y), "rw");
        is("though it is below its share", y.share(2) - y.running(2), 10);
        y.drop(3, 0, 50);
        is("it waits for nothing else", states(y), "rr");
    }

    private void teams() {
        about(TERMS, "At most 10 teams exist, numbered from 0.");
        FairquotaBroker x = new FairquotaBroker();
        is("the number 0 is there at first", x.children(0), 0);
        for (int team = 1; team <= 9; team++) is("team " + team, x.addTeam(team - 1, 1), team);
        is("10 teams, one below the other", x.teams(), 10);
        refuses("not 11", STATE, () -> x.addTeam(9, 1));
        is("still 10", x.teams(), 10);

        about(TERMS, "The team 0 is the root; each other one has a parent, a weight from 1 to 9, "
                + "and a limit from 0 to 500, at first 500.");
        FairquotaBroker y = leaves(1, 9);
        refuses("the root has no parent", UNSUPPORTED, () -> y.parentOf(0));
        is("the first other one has", y.parentOf(1), 0);
        refuses("weight 0", ARGUMENT, () -> y.setWeight(1, 0));
        is("weight 1", y.setWeight(1, 1), 1);
        is("weight 9", y.setWeight(2, 9), 9);
        refuses("weight 10", ARGUMENT, () -> y.setWeight(2, 10));
        refuses("limit -1", ARGUMENT, () -> y.setLimit(1, -1));
        is("limit 500, at first", y.setLimit(1, 0), 500);
        is("limit 0", y.setLimit(1, 500), 0);
        refuses("limit 501", ARGUMENT, () -> y.setLimit(1, 501));

        about(TERMS, "A team without children is a leaf; jobs belong to leaves.");
        FairquotaBroker z = new FairquotaBroker();
        is("the root without children is a leaf", z.freeFor(0), 20);
        z.addTeam(0, 1);
        refuses("with one child it is none", UNSUPPORTED, () -> z.freeFor(0));
        refuses("a job of it", UNSUPPORTED, () -> z.submit(0, 1, 1));
        is("the child is a leaf", z.submit(1, 1, 1), 0);
    }

    private void jobs() {
        about(TERMS, "A job belongs to a leaf and has a size, in units, and ticks.");
        FairquotaBroker x = leaves(1, 1);
        x.submit(2, 3, 4);
        is("its leaf, its size", "" + x.running(1) + x.running(2), "03");
        is("its ticks", x.toGo(0), 4);

        about(TERMS, "Jobs are numbered from 0 in the order in which they were submitted.");
        is("the next one, of another leaf", x.submit(1, 30, 1), 1);
        refuses("one that is refused", ARGUMENT, () -> x.submit(1, 61, 1));
        x.cancel(1);
        is("numbers are neither left out nor used again", x.submit(1, 1, 1), 2);

        about(TERMS, "A job waits, 'w', runs, 'r', has ended, 'e', or was cancelled, 'c'.");
        FairquotaBroker y = new FairquotaBroker();
        y.submit(0, 20, 1);
        y.submit(0, 20, 2);
        y.submit(0, 1, 1);
        y.cancel(2);
        is("before its last tick", states(y), "rwc");
        y.pass(1);
        is("at its last tick", states(y), "erc");

        about(TERMS, "While it runs, it uses as many units as its size.");
        FairquotaBroker z = new FairquotaBroker();
        z.submit(0, 20, 2);
        z.submit(0, 20, 2);
        is("not while it waits", z.running(0), 20);
        z.pass(1);
        is("to its last tick but one", z.freeFor(0), 0);
        z.cancel(1);
        z.pass(1);
        is("not when it has ended", z.freeFor(0), 20);

        about(TERMS, "When it starts, its ticks to go are its ticks.");
        FairquotaBroker v = leaves(1, 1);
        v.submit(1, 20, 9);
        is("at its first start", v.toGo(0), 9);
        v.pass(8);
        is("one is left", v.toGo(0), 1);
        v.submit(2, 10, 1);
        v.pass(1);
        is("at its second start", states(v) + v.toGo(0), "re9");

        about(TERMS, "A job that is stopped waits again.");
        v.submit(2, 10, 1);
        is("it is neither ended nor cancelled", states(v) + stops(v), "wer200");
        is("it is the first job", v.firstOf(1), 0);

        about(TERMS, "The jobs of a leaf that wait stand in its queue by rising numbers; "
                + "the first one of them is its first job.");
        FairquotaBroker u = new FairquotaBroker();
        u.submit(0, 15, 9);
        u.submit(0, 6, 9);
        u.submit(0, 5, 9);
        is("one that would fit waits behind one that does not", states(u), "rww");
        is("the lower number is in front", u.firstOf(0), 1);
        u.cancel(1);
        is("and starts as soon as it is the first one", states(u), "rcr");
    }

    private void runningAndDemand() {
        about(TERMS, "What a team runs is the sum of the sizes of the jobs of all leaves below it, "
                + "or of its own jobs, that run");
        FairquotaBroker x = leaves(1, 1);
        x.addTeam(1, 1);
        x.addTeam(3, 1);
        x.addTeam(3, 1);
        is("none", x.running(0), 0);
        x.submit(4, 2, 9);
        x.submit(5, 3, 9);
        x.submit(2, 4, 9);
        x.submit(2, 12, 9);
        is("own jobs that run, not those that wait", x.running(2), 4);
        is("two leaves below", x.running(3), 5);
        is("two levels below", x.running(1), 5);
        is("all", x.running(0), 9);

        about(TERMS, "its demand is the same for those that wait or run, but at most its limit");
        is("wait or run", x.demand(2), 16);
        x.setLimit(2, 16);
        is("as much as its limit", x.demand(2), 16);
        x.setLimit(2, 15);
        is("one more than its limit", x.demand(2), 15);
        x.setLimit(2, 0);
        is("a limit of 0", x.demand(2), 0);

        about(TERMS, "for a team with children, it is the sum of the demands of its children, but at most its limit.");
        is("of children of children", x.demand(1), 5);
        x.setLimit(4, 1);
        is("the demands, not the sizes", x.demand(1), 4);
        x.setLimit(3, 4);
        is("as much as its limit", x.demand(3), 4);
        x.setLimit(3, 3);
        is("one more than its limit", x.demand(3), 3);
        is("told upwards", x.demand(1) * 10 + x.demand(0), 33);

        about(TERMS, "The root has no limit.");
        FairquotaBroker y = leaves(1, 1);
        submitTimes(y, 9, 1, 60, 1);
        is("the limit that others have at first", y.demand(1), 500);
        is("the root alike", y.demand(0), 500);
        y.submit(2, 1, 1);
        is("501", y.demand(0), 501);
        submitTimes(y, 9, 2, 60, 1);
        is("1000", y.demand(0), 1000);
        refuses("none can be set", UNSUPPORTED, () -> y.setLimit(0, 500));
    }

    private void sharesOfTheRoot() {
        about(TERMS, "The share of the root is the capacity, but at most its demand.");
        FairquotaBroker x = new FairquotaBroker();
        is("no demand", x.share(0), 0);
        x.submit(0, 20, 9);
        is("as much as its demand", x.share(0), 20);
        x.setCapacity(21);
        is("one more than its demand", x.share(0), 20);
        FairquotaBroker y = withCapacity(19);
        y.submit(0, 20, 9);
        is("one less than its demand", y.share(0), 19);
        y.setCapacity(0);
        is("a capacity of 0", y.share(0), 0);
        y.setCapacity(200);
        submitTimes(y, 3, 0, 60, 9);
        is("the greatest capacity, all demanded", y.share(0), 200);
        y.submit(0, 60, 9);
        is("and more", y.share(0), 200);
    }

    private void sharesOfChildren() {
        about(TERMS, "each unit goes to the child with the least quotient of what it has been given so far and its weight");
        FairquotaBroker x = withCapacity(0, 2, 3);
        x.submit(1, 60, 9);
        x.submit(2, 60, 9);
        is("none to give", shares(x), "0 0");
        String[] due = {"1 0", "1 1", "1 2", "2 2", "2 3", "3 3", "3 4", "3 5", "4 5"};
        for (int units = 1; units <= due.length; units++) {
            x.setCapacity(units);
            is("quotients are not rounded, " + units, shares(x), due[units - 1]);
        }
        FairquotaBroker w = withCapacity(10, 1, 9);
        w.submit(1, 60, 9);
        w.submit(2, 60, 9);
        is("the least and the greatest weight", shares(w), "1 9");
        w.setCapacity(11);
        is("one more", shares(w), "2 9");

        about(TERMS, "of those that have been given less than their demand");
        FairquotaBroker y = withCapacity(8, 1, 1);
        y.submit(1, 3, 9);
        y.submit(2, 60, 9);
        is("3 of 3", shares(y), "3 5");
        y.setCapacity(6);
        is("just 3 of 3", shares(y), "3 3");
        y.setCapacity(5);
        is("3 of 3, by its number", shares(y), "3 2");
        y.setCapacity(4);
        is("2 of 3", shares(y), "2 2");
        y.setLimit(2, 0);
        is("one that demands nothing is given nothing", shares(y), "3 0");

        about(TERMS, "What a child has been given in the end is its share.");
        FairquotaBroker z = leaves(1, 1);
        z.addTeam(2, 1);
        z.addTeam(2, 1);
        z.submit(1, 3, 9);
        z.submit(3, 9, 9);
        z.submit(4, 8, 9);
        is("all is given", z.share(0) + ": " + shares(z), "20: 3 17 9 8");
        z.submit(4, 1, 9);
        is("all but one", z.share(0) + ": " + shares(z), "20: 3 17 9 8");
        z.submit(1, 6, 9);
        is("no more than its parent's share goes to its children", z.share(0) + ": " + shares(z), "20: 9 11 6 5");
    }

    private void sharesOfTies() {
        about(TERMS, "of several, to the one with the lowest number.");
        FairquotaBroker x = withCapacity(1, 1, 1, 1);
        for (int team = 1; team <= 3; team++) x.submit(team, 60, 9);
        is("1 of 3", shares(x), "1 0 0");
        x.setCapacity(2);
        is("2 of 3", shares(x), "1 1 0");
        x.setCapacity(3);
        is("3 of 3", shares(x), "1 1 1");
        x.setCapacity(4);
        is("4", shares(x), "2 1 1");
        FairquotaBroker y = withCapacity(9, 6, 3);
        y.submit(1, 60, 9);
        y.submit(2, 60, 9);
        is("6 by 6 and 3 by 3", shares(y), "6 3");
        y.setCapacity(10);
        is("equal quotients of other weights", shares(y), "7 3");
    }

    private void reservations() {
        about(TERMS, "For a leaf and a span of ticks, from a first one up to, but not including, another one, "
                + "units can be reserved.");
        FairquotaBroker x = new FairquotaBroker();
        is("for the root as a leaf", x.reserve(0, 5, 0, 1), 5);
        is("in the least span", x.reserved(0), 5);
        x.pass(1);
        is("not including the other tick", x.reserved(0), 0);

        about(TERMS, "They hold when the present tick is in the span.");
        FairquotaBroker y = leaves(1, 1);
        y.reserve(1, 4, 3, 5);
        passTo(y, 2);
        is("one tick ahead", y.reserved(1), 0);
        is("free one tick ahead", y.freeFor(2), 20);
        y.pass(1);
        is("the first tick", y.reserved(1), 4);
        is("free at the first tick", y.freeFor(2), 16);
        y.pass(1);
        is("the last tick", y.reserved(1), 4);
        y.pass(1);
        is("the tick behind the last one", y.reserved(1), 0);
        is("free behind the last one", y.freeFor(2), 20);

        about(TERMS, "What is reserved for a leaf is the sum of the units of its reservations that hold.");
        FairquotaBroker z = leaves(1, 1);
        z.reserve(1, 1, 0, 2);
        z.reserve(1, 2, 2, 4);
        z.reserve(1, 4, 1, 3);
        z.reserve(2, 8, 0, 9);
        StringBuilder sums = new StringBuilder();
        for (int tick = 0; tick < 5; tick++) {
            sums.append(z.reserved(1));
            z.pass(1);
        }
        is("spans that touch, and one over both", sums.toString(), "15620");
    }

    private void dues() {
        about(TERMS, "The due of a leaf is its share, or what is reserved for it if that is greater.");
        FairquotaBroker x = leaves(1, 1);
        x.submit(1, 30, 9);
        x.submit(2, 30, 9);
        is("nothing is reserved", x.due(1), 10);
        x.reserve(1, 9, 0, 1);
        is("one less than the share", x.due(1), 10);
        x.reserve(1, 1, 0, 1);
        is("as much as the share", x.due(1), 10);
        x.reserve(1, 1, 0, 1);
        is("one more than the share", x.due(1), 11);
        is("another leaf's due is not less for it", x.due(2), 10);
        x.setLimit(1, 0);
        is("without a share", x.due(1), 11);
        x.pass(1);
        is("when it does not hold", x.due(1), 0);
    }

    private void free() {
        about(TERMS, "The free units for a leaf are the capacity, minus what the root runs, minus, "
                + "for each other leaf, what is reserved for it and not run by it.");
        FairquotaBroker x = leaves(1, 1, 1);
        x.addTeam(3, 1);
        x.submit(1, 5, 9);
        is("minus what is run", x.freeFor(2), 15);
        x.reserve(1, 4, 0, 9);
        is("one less is reserved than run", x.freeFor(2), 15);
        x.reserve(1, 1, 0, 9);
        is("as much is reserved as run", x.freeFor(2), 15);
        x.reserve(1, 1, 0, 9);
        is("one more is reserved than run", x.freeFor(2), 14);
        is("what is reserved for itself stays free", x.freeFor(1), 15);
        x.reserve(4, 7, 0, 9);
        is("of all other leaves", x.freeFor(2), 7);
        is("a leaf further down", x.freeFor(4), 14);

        about(TERMS, "They can be less than 0.");
        x.reserve(4, 7, 0, 9);
        is("0", x.freeFor(2), 0);
        x.reserve(4, 1, 0, 9);
        is("-1", x.freeFor(2), -1);
        FairquotaBroker y = withCapacity(0, 1, 1);
        for (int to = 1; to <= 8; to++) {
            for (int i = 0; i < 4; i++) y.reserve(1, 50, 0, to);
        }
        is("the least that can be", y.freeFor(2), -1600);
    }

    private void use() {
        about(TERMS, "When a tick passes, the use of each leaf increases by what it runs; then, if the number of the tick "
                + "can be divided by the half-time, the use of each leaf is divided by 2 and rounded down.");
        FairquotaBroker x = leaves(1, 1, 1);
        x.setHalfTime(3);
        x.submit(1, 1, 50);
        x.submit(2, 4, 3);
        is("before a tick passes", "" + x.use(1) + x.use(2) + x.use(3), "000");
        x.pass(1);
        is("one tick", "" + x.use(1) + x.use(2) + x.use(3), "140");
        x.pass(1);
        is("the tick before the half-time", "" + x.use(1) + x.use(2) + x.use(3), "280");
        x.pass(1);
        is("3 by 2 is rounded down, 8 by 2, 0 by 2", "" + x.use(1) + x.use(2) + x.use(3), "140");
        x.pass(1);
        is("the tick after the half-time", "" + x.use(1) + x.use(2) + x.use(3), "240");
        x.pass(2);
        is("twice the half-time", "" + x.use(1) + x.use(2) + x.use(3), "220");
        FairquotaBroker y = leaves(1, 1);
        y.setHalfTime(1);
        y.submit(1, 1, 50);
        y.pass(1);
        is("1 by 2", y.use(1), 0L);
        y.submit(2, 2, 50);
        y.pass(1);
        is("increased first, divided then", y.use(2), 1L);
        y.pass(1);
        is("3 by 2", y.use(2), 1L);
    }

    private void lines() {
        about(TERMS, "The leaves that have a first job stand in a line by the quotient of use and weight, "
                + "the least one first, and then by their numbers");
        FairquotaBroker x = leaves(2, 3);
        x.submit(1, 5, 50);
        x.submit(2, 7, 50);
        x.pass(1);
        is("no first job", line(x), "");
        x.submit(2, 60, 1);
        is("one first job", line(x), "2");
        x.submit(1, 60, 1);
        is("7 by 3 ahead of 5 by 2: quotients are not rounded", line(x), "21");
        FairquotaBroker y = leaves(2, 3);
        y.submit(1, 4, 50);
        y.submit(2, 6, 50);
        y.submit(2, 60, 1);
        y.submit(1, 60, 1);
        y.pass(1);
        is("4 by 2 and 6 by 3 are equal: by their numbers", line(y), "12");
        y.setWeight(1, 1);
        is("4 by 1 behind 6 by 3", line(y), "21");

        about(TERMS, "the root, as long as it is a leaf, has the weight 1.");
        FairquotaBroker z = new FairquotaBroker();
        z.submit(0, 20, 50);
        z.submit(0, 20, 50);
        z.pass(1);
        is("the root in the line", line(z), "0");
        FairquotaBroker v = leaves(1);
        v.submit(1, 60, 1);
        is("no leaf, not in the line", line(v), "1");
    }
}
