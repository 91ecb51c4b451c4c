/** The terms of starting, stopping, serving and of what happens in a tick. */
final class ServingBoundaries extends Boundaries {
    private static final String TERMS = "Terms";

    ServingBoundaries(Sentences sentences) {
        super(sentences);
    }

    @Override
    void checkAll() {
        startsWithinLimits();
        startsInFreeUnits();
        reclaimsWithinLimits();
        reclaimsOnlyWhatIsNotFree();
        reclaimsUpToItsDue();
        reclaimsOnlyIfEnough();
        stopsBorrowersAlone();
        stopsTheYoungestFirst();
        stopsNoMoreThanNeeded();
        servesFromTheBeginning();
        servesAfterEachChange();
        passesTicks();
        servesAfterTheUse();
    }

    /** A leaf that runs 3 below a team that runs 7, both with limits: does a job of this size start? */
    private static char stateUnderLimits(int leafLimit, int teamLimit, int size) {
        FairquotaBroker x = leaves(1);
        x.addTeam(1, 1);
        x.addTeam(1, 1);
        x.submit(2, 3, 50);
        x.submit(3, 4, 50);
        x.setLimit(2, leafLimit);
        x.setLimit(1, teamLimit);
        return x.stateOf(x.submit(2, size, 50));
    }

    private void startsWithinLimits() {
        about(TERMS, "what each team on the way from its leaf up to the root, the root left out, runs with it "
                + "is not greater than the limit of this team");
        is("the leaf's limit", stateUnderLimits(8, 500, 5), 'r');
        is("one more than the leaf's limit", stateUnderLimits(8, 500, 6), 'w');
        is("the limit of the team above", stateUnderLimits(500, 12, 5), 'r');
        is("one more than the limit of the team above", stateUnderLimits(500, 12, 6), 'w');
        is("both limits", stateUnderLimits(8, 12, 5), 'r');
        is("a limit below what is run already", stateUnderLimits(2, 500, 1), 'w');
        is("a limit of 0", stateUnderLimits(0, 500, 1), 'w');

        FairquotaBroker x = withCapacity(200, 1, 1);
        x.setLimit(1, 100);
        submitTimes(x, 2, 1, 50, 9);
        x.submit(1, 1, 9);
        submitTimes(x, 2, 2, 50, 9);
        is("another leaf's limit is not on the way, and the root has none", states(x), "rrwrr");
    }

    private void startsInFreeUnits() {
        about(TERMS, "if its size is not greater than the free units for its leaf.");
        FairquotaBroker x = new FairquotaBroker();
        x.submit(0, 15, 9);
        x.submit(0, 6, 9);
        is("one more than is free", states(x), "rw");
        x.cancel(1);
        x.submit(0, 5, 9);
        is("all that is free", states(x), "rcr");
        x.submit(0, 1, 9);
        is("nothing is free", states(x), "rcrw");
        FairquotaBroker y = leaves(1, 1);
        y.reserve(2, 7, 0, 9);
        y.submit(1, 14, 9);
        is("one more than is not reserved for another leaf", states(y), "w");
        y.submit(2, 20, 9);
        is("what is reserved for itself is free", states(y), "wr");
        FairquotaBroker z = leaves(1, 1);
        z.reserve(2, 7, 0, 9);
        z.submit(1, 13, 9);
        is("all that is not reserved for another leaf", states(z), "r");
        FairquotaBroker v = leaves(1, 1);
        v.reserve(2, 21, 0, 9);
        v.submit(1, 1, 9);
        is("less than 0 is free", states(v), "w");
    }

    /** A leaf that has 10 reserved asks for them under limits; another one runs all. */
    private static String reclaimedUnderLimits(int leafLimit, int teamLimit) {
        FairquotaBroker x = leaves(1, 1);
        x.addTeam(1, 1);
        submitTimes(x, 4, 2, 5, 50);
        x.setLimit(3, leafLimit);
        x.setLimit(1, teamLimit);
        x.reserve(3, 10, 0, 50);
        x.submit(3, 10, 50);
        return states(x) + stops(x);
    }

    private void reclaimsWithinLimits() {
        about(TERMS, "It can reclaim if the same holds for the limits");
        is("the leaf's limit", reclaimedUnderLimits(10, 500), "rrwwr" + "00110");
        is("one more than the leaf's limit", reclaimedUnderLimits(9, 500), "rrrrw" + "00000");
        is("the limit of the team above", reclaimedUnderLimits(500, 10), "rrwwr" + "00110");
        is("one more than the limit of the team above", reclaimedUnderLimits(500, 9), "rrrrw" + "00000");

        FairquotaBroker x = leaves(1);
        x.addTeam(1, 1);
        x.addTeam(1, 1);
        x.setLimit(1, 29);
        submitTimes(x, 4, 2, 5, 50);
        x.submit(3, 10, 50);
        is("what would be stopped counts still", states(x) + stops(x), "rrrrw" + "00000");
        x.setLimit(1, 30);
        is("with it up to the limit", states(x) + stops(x), "rrwwr" + "00110");
    }

    private void reclaimsOnlyWhatIsNotFree() {
        about(TERMS, "its size is greater than the free units for its leaf");
        FairquotaBroker x = leaves(1, 1);
        submitTimes(x, 3, 1, 5, 50);
        x.submit(2, 5, 50);
        is("as much is free: nothing is stopped", states(x) + stops(x), "rrrr" + "0000");
        FairquotaBroker y = leaves(1, 1);
        submitTimes(y, 3, 1, 5, 50);
        y.submit(2, 6, 50);
        is("one more than is free: one is stopped", states(y) + stops(y), "rrwr" + "0010");
    }

    private void reclaimsUpToItsDue() {
        about(TERMS, "what its leaf runs with it is not greater than the due of the leaf");
        FairquotaBroker x = leaves(1, 1);
        submitTimes(x, 4, 1, 5, 50);
        x.submit(2, 11, 50);
        is("one more than the due", states(x) + stops(x), "rrrrw" + "00000");
        x.cancel(4);
        x.submit(2, 10, 50);
        is("as much as the due", states(x) + stops(x), "rrwwcr" + "001100");
        FairquotaBroker y = leaves(1, 1);
        submitTimes(y, 4, 1, 5, 50);
        y.submit(2, 4, 50);
        y.submit(2, 7, 50);
        is("with what it runs, one more", states(y) + stops(y), "rrrwrw" + "000100");
        y.cancel(5);
        y.submit(2, 6, 50);
        is("with what it runs, as much", states(y) + stops(y), "rrwwrcr" + "0011000");
        FairquotaBroker z = leaves(1, 1);
        z.submit(1, 4, 50);
        z.submit(1, 16, 50);
        z.submit(2, 12, 50);
        z.reserve(2, 11, 0, 50);
        is("one more than is reserved", states(z) + stops(z), "rrw" + "000");
        z.reserve(2, 1, 0, 50);
        is("as much as is reserved", states(z) + stops(z), "rwr" + "010");
    }

    /** What one leaf runs beyond what is reserved for it is just enough for the other one, or not. */
    private static String reclaimedFromReserved(int reserved) {
        FairquotaBroker x = leaves(1, 1);
        x.submit(1, 11, 50);
        x.reserve(1, reserved, 0, 50);
        x.reserve(2, 15, 0, 50);
        x.submit(2, 15, 50);
        return states(x) + stops(x);
    }

    private void reclaimsOnlyIfEnough() {
        about(TERMS, "and enough jobs can be stopped.");
        is("just enough", reclaimedFromReserved(5), "wr" + "10");
        is("one unit too few", reclaimedFromReserved(6), "rw" + "00");
        FairquotaBroker x = withCapacity(40, 1, 1);
        submitTimes(x, 40, 1, 1, 50);
        x.cancel(0);
        x.setLimit(1, 0);
        x.reserve(2, 40, 0, 50);
        x.submit(2, 40, 50);
        is("all of the most that can run", states(x), "c" + "w".repeat(39) + "r");

        about(TERMS, "If they do not become enough, none is stopped.");
        FairquotaBroker y = reclaimed(11);
        is("10 would be freed of 11", states(y) + stops(y), "rrrw" + "0000");
        is("they have still as long to go", y.toGo(0) * 100 + y.toGo(1), 4949);
        is("their leaf runs the same", y.running(1) * 100 + y.running(0), 1020);
        FairquotaBroker z = reclaimed(10);
        is("10 are freed of 10", states(z) + stops(z), "wwrr" + "1100");
    }

    /** One leaf runs 10 without a due, another one runs 10 that are reserved for it, a third one asks for these. */
    private static FairquotaBroker reclaimed(int size) {
        FairquotaBroker x = leaves(1, 1, 1);
        submitTimes(x, 2, 1, 5, 50);
        x.setLimit(1, 0);
        x.submit(3, 10, 50);
        x.reserve(3, 10, 0, 50);
        x.pass(1);
        x.reserve(2, size, 0, 50);
        x.submit(2, size, 50);
        return x;
    }

    /** Two leaves run 10 each, for the second one units are reserved; a third one asks for 5. */
    private static String stoppedForAThird(int reserved) {
        FairquotaBroker x = leaves(1, 1, 1);
        x.submit(1, 10, 50);
        x.submit(2, 10, 50);
        x.reserve(2, reserved, 0, 50);
        x.submit(3, 5, 50);
        return states(x) + stops(x);
    }

    private void stopsBorrowersAlone() {
        about(TERMS, "of the jobs that run of all other leaves that run more than their due");
        is("one that runs its due is left", stoppedForAThird(10), "wrr" + "100");
        is("one that runs one more than its due is not", stoppedForAThird(9), "wrr" + "110");
        FairquotaBroker x = leaves(1, 1);
        x.submit(1, 10, 50);
        x.submit(2, 4, 50);
        x.submit(2, 6, 50);
        x.submit(2, 1, 50);
        is("none runs more than its due, and its own jobs are not stopped", states(x) + stops(x), "rrrw" + "0000");
        FairquotaBroker y = leaves(1, 1, 1);
        submitTimes(y, 2, 2, 5, 50);
        submitTimes(y, 2, 1, 5, 50);
        y.reserve(3, 10, 0, 50);
        y.submit(3, 10, 50);
        is("each time: a leaf is left as soon as it runs no more than its due", states(y) + stops(y), "rwrwr" + "01010");
    }

    private void stopsTheYoungestFirst() {
        about(TERMS, "the one that started last");
        FairquotaBroker x = leaves(1, 1, 1);
        x.submit(1, 10, 50);
        x.submit(2, 10, 50);
        x.submit(3, 5, 50);
        is("the second one", states(x) + stops(x), "rwr" + "010");

        FairquotaBroker y = leaves(1, 1, 1);
        y.submit(1, 10, 50);
        y.submit(2, 10, 50);
        y.reserve(2, 10, 0, 1);
        y.reserve(3, 10, 0, 1);
        y.submit(3, 10, 1);
        is("the first one is stopped", states(y) + stops(y), "wrr" + "100");
        y.pass(1);
        is("and starts again", states(y), "rre");
        y.submit(3, 5, 50);
        is("so that it is the one that started last", states(y) + stops(y), "wrer" + "2000");

        FairquotaBroker z = withCapacity(0, 1, 1, 1);
        z.submit(2, 10, 50);
        z.submit(1, 10, 50);
        z.setCapacity(20);
        z.submit(3, 5, 50);
        is("of two that start in one call, the one behind in the line", states(z) + stops(z), "wrr" + "100");
    }

    private void stopsNoMoreThanNeeded() {
        about(TERMS, "until the size is not greater than the free units for its leaf any more.");
        int[] sizes = {5, 6, 10, 11, 20};
        String[] due = {"rrrwr" + "00010", "rrwwr" + "00110", "rrwwr" + "00110", "rwwwr" + "01110", "wwwwr" + "11110"};
        for (int i = 0; i < sizes.length; i++) {
            FairquotaBroker x = leaves(1, 1);
            submitTimes(x, 4, 1, 5, 50);
            x.setLimit(1, 0);
            x.submit(2, sizes[i], 50);
            is("for " + sizes[i] + " units, by jobs of 5 without a due", states(x) + stops(x), due[i]);
        }
        FairquotaBroker y = leaves(1, 1);
        y.submit(1, 3, 50);
        submitTimes(y, 2, 1, 5, 50);
        y.setLimit(1, 0);
        y.submit(2, 12, 50);
        is("what was free before counts", states(y) + stops(y), "rrwr" + "0010");
    }

    private void servesFromTheBeginning() {
        about(TERMS, "the first one of the first jobs that can start or reclaim does so");
        FairquotaBroker x = withCapacity(0, 1, 1, 1);
        x.submit(3, 7, 50);
        x.submit(2, 8, 50);
        x.submit(1, 16, 50);
        x.setCapacity(15);
        is("the first one cannot, the second and the third one can", states(x), "rrw");
        FairquotaBroker y = withCapacity(0, 1, 1, 1);
        y.submit(3, 7, 50);
        y.submit(2, 8, 50);
        y.submit(1, 16, 50);
        y.setCapacity(14);
        is("the second one first, if there is not enough for both", states(y), "wrw");

        about(TERMS, "and then it is gone through anew, until there is none.");
        FairquotaBroker z = withCapacity(0, 1, 1);
        submitTimes(z, 2, 1, 3, 50);
        z.submit(2, 3, 50);
        z.setCapacity(6);
        is("from its beginning, so that the second job starts and is stopped again",
                states(z) + stops(z), "rwr" + "010");
        FairquotaBroker v = withCapacity(0, 1);
        submitTimes(v, 40, 1, 5, 50);
        v.setCapacity(199);
        is("all but the last one", states(v), "r".repeat(39) + "w");
        v.setCapacity(200);
        is("all of the most that can wait", states(v), "r".repeat(40));
    }

    private void servesAfterEachChange() {
        about(TERMS, "At the end of each call that changes anything, and at the end of each tick, "
                + "the line is gone through from its beginning");
        FairquotaBroker x = leaves(1, 1);
        submitTimes(x, 4, 1, 5, 50);
        x.submit(2, 11, 50);
        is("submit: no room yet", states(x), "rrrrw");
        x.addTeam(0, 9);
        x.setHalfTime(1);
        is("addTeam, setHalfTime: a share is none but by demand", states(x), "rrrrw");
        x.setWeight(2, 2);
        is("setWeight: reclaimed by its new share", states(x), "rwwwr");
        x.setLimit(1, 0);
        x.cancel(4);
        is("cancel: but for a limit", states(x), "rwwwc");
        x.setLimit(1, 10);
        is("setLimit", states(x), "rrwwc");
        x.setCapacity(10);
        x.setLimit(1, 500);
        is("setLimit: no room", states(x), "rrwwc");
        x.setCapacity(15);
        is("setCapacity", states(x), "rrrwc");
        x.reserve(3, 1, 0, 2);
        x.cancel(0);
        is("cancel: one unit is reserved", states(x), "crrwc");
        x.drop(3, 0, 2);
        is("drop", states(x), "crrrc");
        x.setWeight(2, 1);
        x.submit(2, 9, 1);
        is("reserve: nothing is yet", states(x), "crrrcw");
        x.reserve(2, 9, 0, 1);
        is("reserve", states(x), "crwwcr");
        x.pass(1);
        is("pass", states(x), "crrrce");

        FairquotaBroker y = new FairquotaBroker();
        submitTimes(y, 4, 0, 20, 2);
        is("each tick of a pass", y.pass(7), 3);
        is("the fourth job started at its sixth tick", y.toGo(3), 1);
        FairquotaBroker z = leaves(1, 1);
        z.reserve(2, 20, 2, 4);
        z.submit(1, 11, 1);
        z.submit(1, 20, 1);
        z.pass(3);
        is("before a reservation holds, but not while it does", states(z), "ee");
        FairquotaBroker v = leaves(1, 1);
        v.reserve(2, 20, 1, 4);
        v.submit(1, 11, 1);
        v.submit(1, 20, 1);
        v.pass(3);
        is("not while a reservation holds", states(v), "ew");
        v.pass(1);
        is("at the tick when it holds no more", states(v), "er");
    }

    private void passesTicks() {
        about(TERMS, "When a tick passes, the number of the tick increases by 1; each job that runs has one tick less to go, "
                + "and ends if it has none");
        FairquotaBroker x = new FairquotaBroker();
        x.submit(0, 20, 2);
        x.submit(0, 20, 2);
        x.pass(1);
        is("one tick", x.tick() + ": " + states(x) + x.toGo(0) + x.toGo(1), "1: rw12");
        x.pass(1);
        is("the one that starts at the end of a tick has all its ticks to go",
                x.tick() + ": " + states(x) + x.toGo(1), "2: er2");

        about(TERMS, "then the use changes, by the jobs that run then");
        FairquotaBroker y = leaves(1, 1);
        y.submit(1, 20, 2);
        y.submit(2, 20, 2);
        y.pass(1);
        is("the one that runs", "" + y.use(1) + " " + y.use(2), "20 0");
        y.pass(1);
        is("neither the one that ends then nor the one that starts then", "" + y.use(1) + " " + y.use(2), "20 0");
        y.pass(1);
        is("in its first tick", "" + y.use(1) + " " + y.use(2), "20 20");
    }

    private void servesAfterTheUse() {
        about(TERMS, "then the line is served.");
        FairquotaBroker x = leaves(1, 1);
        x.submit(1, 3, 50);
        x.submit(2, 4, 1);
        x.submit(1, 17, 50);
        x.submit(2, 17, 50);
        is("before the tick", states(x) + line(x), "rrww12");
        x.pass(1);
        is("by the use of this tick", states(x) + line(x), "rewr1");
        FairquotaBroker z = leaves(1, 1);
        z.setHalfTime(2);
        z.submit(1, 5, 2);
        z.submit(2, 4, 2);
        z.submit(1, 20, 9);
        z.submit(2, 20, 9);
        z.pass(1);
        is("5 and 4 before the half-time", line(z), "21");
        z.pass(1);
        is("2 and 2 at the half-time, so that the lower number is served", states(z) + line(z), "eerw2");
    }
}
