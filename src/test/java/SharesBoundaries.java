/** Promises 23 to 32. */
final class SharesBoundaries extends Boundaries {
    SharesBoundaries(Sentences sentences) {
        super(sentences);
    }

    @Override
    void checkAll() {
        running();
        demand();
        share();
        shareByLevels();
        due();
        freeFor();
        use();
        usedShare();
        meanStops();
        isFair();
        isFairAtItsEdges();
    }

    private void running() {
        about("Promise 23", "Returns what a team runs.");
        FairquotaBroker x = leaves(1, 1);
        x.submit(1, 20, 2);
        x.submit(2, 11, 1);
        is("all", x.running(1) + " " + x.running(2) + " " + x.running(0), "20 0 20");
        about("Promise 23", "Returns the number of units.");
        x.cancel(1);
        x.submit(2, 10, 1);
        is("what was stopped is run no more", x.running(1) + " " + x.running(2) + " " + x.running(0), "0 10 10");
        x.pass(1);
        is("what has ended neither", x.running(1) + " " + x.running(2) + " " + x.running(0), "20 0 20");
        x.cancel(0);
        is("none", x.running(0), 0);
        FairquotaBroker y = withCapacity(200);
        submitTimes(y, 40, 0, 5, 1);
        is("the most", y.running(0), 200);
        about("Promise 23", "Throws `IndexOutOfBoundsException` if there is no such team");
        refusesOtherTeams(x, team -> x.running(team));
    }

    private void demand() {
        about("Promise 24", "Returns the demand of a team.");
        FairquotaBroker x = leaves(1, 1);
        is("none", x.demand(0), 0);
        x.submit(1, 20, 1);
        x.submit(1, 60, 1);
        about("Promise 24", "Returns the number of units.");
        is("wait or run", x.demand(1) + " " + x.demand(2) + " " + x.demand(0), "80 0 80");
        x.setLimit(1, 80);
        is("up to the limit", x.demand(1) + " " + x.demand(0), "80 80");
        x.setLimit(1, 79);
        is("one above the limit", x.demand(1) + " " + x.demand(0), "79 79");
        x.pass(1);
        is("what has ended is demanded no more", x.demand(1), 60);
        x.cancel(1);
        is("what was cancelled neither", x.demand(1), 0);
        FairquotaBroker y = withCapacity(0);
        submitTimes(y, 40, 0, 60, 1);
        is("the most", y.demand(0), 2400);
        about("Promise 24", "Throws `IndexOutOfBoundsException` if there is no such team");
        refusesOtherTeams(x, team -> x.demand(team));
    }

    private void share() {
        about("Promise 25", "Returns the share of a team, found unit by unit.");
        FairquotaBroker x = withCapacity(0, 1, 2, 4);
        for (int team = 1; team <= 3; team++) x.submit(team, 60, 9);
        is("none", shares(x), "0 0 0");
        about("Promise 25", "Returns the number of units.");
        x.setCapacity(6);
        is("one less than a full level", shares(x), "1 2 3");
        x.setCapacity(7);
        is("a full level", shares(x), "1 2 4");
        x.setCapacity(8);
        is("one more than a full level", shares(x), "2 2 4");
        x.setCapacity(179);
        is("one less than all", shares(x), "59 60 60");
        x.setCapacity(180);
        is("all", shares(x) + " " + x.share(0), "60 60 60 180");
        about("Promise 25", "Throws `IndexOutOfBoundsException` if there is no such team");
        refusesOtherTeams(x, team -> x.share(team));
    }

    private void shareByLevels() {
        about("Promise 26", "Returns the same share, found by filling levels: the greatest level up to which all children "
                + "can be filled by their weights, and what is left one by one.");
        FairquotaBroker x = withCapacity(0, 1, 2, 4);
        for (int team = 1; team <= 3; team++) x.submit(team, 60, 9);
        is("none", sharesByLevels(x), "0 0 0");
        x.setCapacity(6);
        is("one less than a full level", sharesByLevels(x), "1 2 3");
        x.setCapacity(7);
        is("a full level", sharesByLevels(x), "1 2 4");
        x.setCapacity(8);
        is("one more than a full level", sharesByLevels(x), "2 2 4");
        x.setCapacity(179);
        is("one less than all", sharesByLevels(x), "59 60 60");
        about("Promise 26", "Returns the number of units.");
        x.setCapacity(180);
        is("all", sharesByLevels(x) + " " + x.shareByLevels(0), "60 60 60 180");
        about("Promise 26", "the greatest level up to which all children can be filled by their weights, "
                + "and what is left one by one.");
        FairquotaBroker y = withCapacity(200, 1, 9);
        submitTimes(y, 4, 1, 60, 9);
        is("the highest level that can be", sharesByLevels(y), "200 0");
        FairquotaBroker z = withCapacity(30, 1, 1, 1);
        z.submit(1, 2, 9);
        z.submit(2, 11, 9);
        z.submit(3, 60, 9);
        is("filled no further than their demands", sharesByLevels(z), "2 11 17");
        z.setCapacity(24);
        is("up to a demand", sharesByLevels(z), "2 11 11");
        z.setCapacity(23);
        is("one less", sharesByLevels(z), "2 11 10");
        z.setCapacity(22);
        is("two less", sharesByLevels(z), "2 10 10");
        levelsBelowLevels();
        about("Promise 26", "Throws `IndexOutOfBoundsException` if there is no such team");
        refusesOtherTeams(x, team -> x.shareByLevels(team));
    }

    private void levelsBelowLevels() {
        FairquotaBroker x = leaves(3, 2);
        x.addTeam(1, 5);
        x.addTeam(1, 7);
        x.addTeam(2, 9);
        for (int team = 3; team <= 5; team++) submitTimes(x, 3, team, 60, 9);
        boolean same = true;
        for (int units = 1; units <= 40; units++) {
            x.setCapacity(units);
            for (int team = 0; team < 6; team++) same &= x.share(team) == x.shareByLevels(team);
        }
        is("the same share as unit by unit, for each capacity", same, true);
    }

    private void due() {
        about("Promise 27", "Returns the due of a leaf.");
        FairquotaBroker x = leaves(1, 1);
        is("none", x.due(1), 0);
        x.submit(1, 4, 9);
        about("Promise 27", "Returns the number of units.");
        is("its share", x.due(1), 4);
        x.reserve(1, 4, 0, 1);
        is("as much is reserved", x.due(1), 4);
        x.reserve(1, 1, 0, 1);
        is("one more is reserved", x.due(1), 5);
        x.pass(1);
        is("reserved no more", x.due(1), 4);
        about("Promise 27", "Throws `IndexOutOfBoundsException` if there is no such team");
        refusesOtherTeams(x, team -> x.due(team));
        about("Promise 27", "Throws `UnsupportedOperationException` if it has children");
        refuses("the root", UNSUPPORTED, () -> x.due(0));
        FairquotaBroker alone = new FairquotaBroker();
        alone.submit(0, 21, 9);
        is("the root as long as it has none", alone.due(0), 20);
    }

    private void freeFor() {
        about("Promise 28", "Returns the free units for a leaf.");
        FairquotaBroker x = leaves(1, 1);
        is("all", x.freeFor(1), 20);
        x.reserve(1, 20, 0, 9);
        about("Promise 28", "Returns the number of units, which can be less than 0.");
        is("none", x.freeFor(2), 0);
        x.reserve(1, 1, 0, 9);
        is("one less than none", x.freeFor(2), -1);
        is("for itself", x.freeFor(1), 20);
        about("Promise 28", "Throws `IndexOutOfBoundsException` if there is no such team");
        refusesOtherTeams(x, team -> x.freeFor(team));
        about("Promise 28", "Throws `UnsupportedOperationException` if it has children");
        refuses("the root", UNSUPPORTED, () -> x.freeFor(0));
        FairquotaBroker alone = new FairquotaBroker();
        alone.reserve(0, 5, 0, 9);
        is("the root as long as it has none", alone.freeFor(0), 20);
    }

    private void use() {
        about("Promise 29", "Returns the use of a leaf.");
        FairquotaBroker x = leaves(1, 1);
        is("none", x.use(1), 0L);
        x.submit(1, 1, 50);
        x.setHalfTime(100);
        x.pass(1);
        about("Promise 29", "Returns the use.");
        is("the least", x.use(1) + " " + x.use(2), "1 0");
        FairquotaBroker y = withCapacity(200);
        y.setHalfTime(100);
        submitTimes(y, 40, 0, 5, 50);
        passTo(y, 49);
        is("the most of 49 ticks", y.use(0), 9800L);
        about("Promise 29", "Throws `IndexOutOfBoundsException` if there is no such team");
        refusesOtherTeams(x, team -> x.use(team));
        about("Promise 29", "Throws `UnsupportedOperationException` if it has children");
        refuses("the root", UNSUPPORTED, () -> x.use(0));
        is("the root as long as it has none", new FairquotaBroker().use(0), 0L);
    }

    private void usedShare() {
        about("Promise 30", "Returns the share of the capacity that is used.");
        FairquotaBroker x = withCapacity(3);
        is("none", x.usedShare(), 0.0f);
        x.submit(0, 1, 1);
        about("Promise 30", "Returns what the root runs divided by the capacity, both converted to float.");
        is("a third", x.usedShare(), 1.0f / 3.0f);
        x.submit(0, 2, 1);
        is("all", x.usedShare(), 1.0f);
        x.submit(0, 60, 1);
        is("no more by what waits", x.usedShare(), 1.0f);
        FairquotaBroker y = withCapacity(200);
        y.submit(0, 1, 1);
        is("one of the most", y.usedShare(), 1.0f / 200.0f);
        about("Promise 30", "Throws `ArithmeticException` if the capacity is 0");
        y.pass(1);
        y.setCapacity(0);
        refuses("0", ARITHMETIC, () -> y.usedShare());
        y.setCapacity(1);
        is("1", y.usedShare(), 0.0f);
    }

    private void meanStops() {
        about("Promise 31", "Throws `ArithmeticException` if none has ended");
        FairquotaBroker x = leaves(1, 1);
        x.submit(1, 20, 2);
        x.submit(2, 1, 1);
        refuses("one was stopped", ARITHMETIC, () -> x.meanStops());
        FairquotaBroker y = new FairquotaBroker();
        refuses("no job", ARITHMETIC, () -> y.meanStops());
        y.submit(0, 1, 1);
        refuses("one runs", ARITHMETIC, () -> y.meanStops());
        y.cancel(0);
        refuses("one was cancelled", ARITHMETIC, () -> y.meanStops());
        y.submit(0, 1, 1);
        y.pass(1);
        is("one has ended, never stopped", y.meanStops(), 0.0);
        about("Promise 31", "Returns the mean number of stops of the jobs that have ended.");
        x.pass(1);
        is("what runs does not count", x.meanStops(), 0.0);
        x.pass(2);
        is("1 of 2", x.meanStops(), 0.5);
        about("Promise 31", "Returns the sum of their stops divided by their number, both converted to double.");
        x.submit(1, 1, 1);
        x.pass(1);
        is("1 of 3", x.meanStops(), 1.0 / 3.0);
        x.submit(1, 20, 2);
        x.submit(2, 1, 1);
        x.submit(2, 1, 1);
        x.cancel(3);
        is("what was cancelled does not count", x.stops(3) + " " + x.meanStops(), "1 " + 1.0 / 3.0);
        x.pass(1);
        is("1 of 5", x.meanStops(), 1.0 / 5.0);
    }

    private void isFair() {
        about("Promise 32", "Returns whether all is fair: no first job can start or reclaim; for each team, the share is "
                + "the same by filling levels; the shares of the children of a team do not exceed its share; "
                + "and the root runs no more than the capacity.");
        FairquotaBroker x = leaves(3, 1, 2);
        x.addTeam(1, 4);
        x.addTeam(1, 1);
        boolean fair = x.isFair();
        for (int i = 0; i < 50; i++) {
            int leaf = 2 + i % 4;
            x.submit(leaf, 1 + i * 7 % 13, 1 + i % 5);
            if (i % 9 == 4) x.reserve(leaf, 1 + i % 11, x.tick() + 1, x.tick() + 3);
            if (i % 7 == 3) x.setWeight(1 + i % 5, 1 + i % 9);
            fair &= x.isFair();
            if (i % 2 == 1) x.pass(1);
            fair &= x.isFair() && x.share(1) + x.share(2) + x.share(3) <= x.share(0)
                    && x.share(4) + x.share(5) <= x.share(1);
        }
        is("after each of many calls", fair, true);
    }

    private void isFairAtItsEdges() {
        about("Promise 32", "Returns whether this holds.");
        is("a new object", new FairquotaBroker().isFair(), true);
        FairquotaBroker x = withCapacity(0, 1, 1);
        is("a capacity of 0", x.isFair(), true);
        x.setCapacity(20);
        submitTimes(x, 4, 1, 5, 50);
        is("all units are run", x.isFair(), true);
        x.submit(2, 11, 50);
        is("one that waits for one unit more than its due", states(x) + x.isFair(), "rrrrwtrue");
        x.cancel(4);
        x.submit(2, 6, 50);
        x.cancel(0);
        x.submit(2, 5, 50);
        is("one that waits for one unit more than is free", states(x) + x.freeFor(2) + x.isFair(), "crrwcrw4true");
    }
}
