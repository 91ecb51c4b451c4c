/** "What it is": the first sentence of the document, part by part, and for how many calls an object is used. */
final class OverviewBoundaries extends Boundaries {
    private static final String OVERVIEW = "What it is";

    OverviewBoundaries(Sentences sentences) {
        super(sentences);
    }

    @Override
    void checkAll() {
        tree();
        gangs();
        borrowing();
        usesAndReservations();
        calls();
    }

    private void tree() {
        about(OVERVIEW, "A broker of the units of a cluster: teams form a tree");
        FairquotaBroker x = leaves(1, 1);
        x.addTeam(2, 1);
        is("a child of the root, and a child of that", x.parentOf(2) + " " + x.parentOf(3), "0 2");

        about(OVERVIEW, "down which shares are told by weights");
        FairquotaBroker y = leaves(3, 1);
        y.addTeam(1, 2);
        y.addTeam(1, 1);
        for (int team = 2; team <= 4; team++) y.submit(team, 60, 9);
        is("20 by 3 and 1, and 15 by 2 and 1", shares(y), "15 5 10 5");
        y.setWeight(1, 1);
        y.setWeight(4, 4);
        is("by other weights: 10 by 2 and 4", shares(y), "10 10 4 6");
    }

    private void gangs() {
        about(OVERVIEW, "jobs are gangs that start with all their units or not at all");
        FairquotaBroker x = new FairquotaBroker();
        x.submit(0, 14, 9);
        x.submit(0, 7, 9);
        is("not with 6 of 7", states(x) + x.running(0), "rw14");
        x.setCapacity(21);
        is("with 7 of 7", states(x) + x.running(0), "rr21");
    }

    private void borrowing() {
        about(OVERVIEW, "teams borrow what is idle and give it back when others reclaim their shares");
        FairquotaBroker x = leaves(1, 1);
        submitTimes(x, 4, 1, 5, 9);
        is("all, twice its share if the other one asked", states(x) + x.running(1), "rrrr20");
        x.submit(2, 10, 9);
        is("the half is given back", states(x) + x.running(1) + " " + x.running(2), "rrwwr10 10");
        x.submit(2, 5, 9);
        is("no more than the share", states(x) + x.running(1) + " " + x.running(2), "rrwwrw10 10");

        about(OVERVIEW, "the youngest jobs being stopped first");
        FairquotaBroker y = leaves(1, 1, 1);
        y.submit(1, 10, 9);
        y.submit(2, 10, 9);
        y.submit(3, 5, 9);
        is("the job 1 is younger", states(y) + stops(y), "rwr" + "010");
        FairquotaBroker z = leaves(1, 1, 1);
        z.submit(2, 10, 9);
        z.submit(1, 10, 9);
        z.submit(3, 5, 9);
        is("whatever its leaf", states(z) + stops(z), "rwr" + "010");
    }

    private void usesAndReservations() {
        about(OVERVIEW, "use decays by halves, and units can be reserved.");
        FairquotaBroker x = leaves(1, 1);
        x.submit(1, 8, 2);
        x.pass(2);
        passTo(x, 9);
        is("before the half-time", x.use(1), 8L);
        x.pass(1);
        is("at the half-time", x.use(1), 4L);
        x.pass(10);
        is("at twice the half-time", x.use(1), 2L);
        x.submit(2, 20, 9);
        is("nothing is reserved", states(x), "er");
        x.cancel(1);
        x.reserve(1, 1, 0, 99);
        x.submit(2, 20, 9);
        is("one unit is reserved", states(x), "ecw");
    }

    private void calls() {
        about(OVERVIEW, "An object is used for at most 512 calls after it has been made");
        FairquotaBroker x = new FairquotaBroker();
        for (int call = 1; call < 511; call += 2) {
            x.submit(0, 1, 1);
            x.pass(1);
        }
        is("the 511th call", x.submit(0, 1, 1), 255);
        is("the 512th call", x.pass(1), 1);

        FairquotaBroker many = new FairquotaBroker();
        int calls = 0;
        for (int round = 0; round < 12; round++) {
            submitTimes(many, 40, 0, 1, 1);
            many.pass(20);
            calls += 41;
        }
        for (; calls < 511; calls++) many.submit(0, 1, 1);
        is("the most jobs that 512 calls can submit", many.submit(0, 1, 1), 499);

        FairquotaBroker late = new FairquotaBroker();
        for (int call = 1; call <= 511; call++) late.pass(20);
        is("the last tick that can be asked for", late.tick(), 10220);
    }
}
