/** Promises 20 to 22. */
final class ReservationsBoundaries extends Boundaries {
    ReservationsBoundaries(Sentences sentences) {
        super(sentences);
    }

    @Override
    void checkAll() {
        reserve();
        reserveInRange();
        reserveOutOfRange();
        reserveInSum();
        reserveTheNinth();
        drop();
        reserved();
        lastTicks();
    }

    private void reserve() {
        about("Promise 20", "Reserves units; for the same leaf and the same span, "
                + "the units are added to those that are reserved.");
        FairquotaBroker x = leaves(1, 1);
        is("none before", x.reserve(1, 3, 0, 5), 3);
        is("the same leaf and span", x.reserve(1, 4, 0, 5), 7);
        about("Promise 20", "Returns the units that are reserved for this leaf and this span.");
        is("another leaf", x.reserve(2, 1, 0, 5), 1);
        is("another first tick", x.reserve(1, 1, 1, 5), 1);
        is("another last tick", x.reserve(1, 1, 0, 6), 1);
        is("those of the others are not in it", x.reserve(1, 1, 0, 5), 8);
        is("but all that hold are reserved", x.reserved(1), 9);
        about("Promise 20", "Throws `IndexOutOfBoundsException` if there is no such team");
        refusesOtherTeams(x, team -> x.reserve(team, 1, 0, 5));
        about("Promise 20", "Throws `UnsupportedOperationException` if the team has children");
        refuses("the root", UNSUPPORTED, () -> x.reserve(0, 1, 0, 5));
        is("none", x.reserve(2, 1, 0, 5), 2);
        FairquotaBroker y = leaves(1);
        y.addTeam(1, 1);
        refuses("one child", UNSUPPORTED, () -> y.reserve(1, 1, 0, 5));
        is("its child has none", y.reserve(2, 1, 0, 5), 1);
        is("the root as long as it has none", new FairquotaBroker().reserve(0, 1, 0, 5), 1);
    }

    private void reserveInRange() {
        FairquotaBroker x = new FairquotaBroker();
        about("Promise 20", "`units`: the units, 1 to 60");
        is("1", x.reserve(0, 1, 0, 5), 1);
        is("60", x.reserve(0, 60, 0, 6), 60);
        about("Promise 20", "`from`: the first tick, 0 to 9999");
        is("0", x.reserve(0, 2, 0, 9), 2);
        is("the last one that leaves a span", x.reserve(0, 3, 9998, 9999), 3);
        is("one that is past", passedAndReserved(), 5);
        about("Promise 20", "`to`: the tick behind the last one, greater than the first one, up to 9999");
        is("one greater", x.reserve(0, 4, 7, 8), 4);
        is("9999", x.reserve(0, 5, 0, 9999), 5);
    }

    private static int passedAndReserved() {
        FairquotaBroker x = new FairquotaBroker();
        x.pass(9);
        return x.reserve(0, 5, 3, 4);
    }

    private void reserveOutOfRange() {
        about("Promise 20", "Throws `IllegalArgumentException` if a number is out of range");
        FairquotaBroker x = new FairquotaBroker();
        int[] units = {0, 61, -1, LEAST_INT, MOST_INT};
        for (int number : units) refuses(number + " units", ARGUMENT, () -> x.reserve(0, number, 0, 5));
        int[] firsts = {-1, 10000, LEAST_INT, MOST_INT};
        for (int first : firsts) {
            refuses("from " + first + " to 5", ARGUMENT, () -> x.reserve(0, 1, first, 5));
            refuses("from " + first + " to the next one", ARGUMENT, () -> x.reserve(0, 1, first, first + 1));
            refuses("from " + first + " to 9999", ARGUMENT, () -> x.reserve(0, 1, first, 9999));
            refuses("from " + first + " to the greatest int", ARGUMENT, () -> x.reserve(0, 1, first, MOST_INT));
        }
        refuses("to 10000", ARGUMENT, () -> x.reserve(0, 1, 5, 10000));
        refuses("from 9999 to 10000", ARGUMENT, () -> x.reserve(0, 1, 9999, 10000));
        refuses("from 9999 to 9999", ARGUMENT, () -> x.reserve(0, 1, 9999, 9999));
        refuses("as great as the first one", ARGUMENT, () -> x.reserve(0, 1, 5, 5));
        refuses("one less than the first one", ARGUMENT, () -> x.reserve(0, 1, 5, 4));
        refuses("from 0 to 0", ARGUMENT, () -> x.reserve(0, 1, 0, 0));
        refuses("to -1", ARGUMENT, () -> x.reserve(0, 1, 0, -1));
        refuses("to the least int", ARGUMENT, () -> x.reserve(0, 1, 0, LEAST_INT));
        refuses("to the greatest int", ARGUMENT, () -> x.reserve(0, 1, 0, MOST_INT));
        is("nothing is reserved by them", x.reserved(0), 0);
        x.addTeam(0, 1);
        is("nor had the root a reservation", x.teams(), 2);
    }

    private void reserveInSum() {
        about("Promise 20", "or the sum of the units would be greater than 200");
        FairquotaBroker x = leaves(1, 1);
        for (int i = 1; i <= 3; i++) x.reserve(1, 60, 0, 5);
        refuses("180 and 21", ARGUMENT, () -> x.reserve(1, 21, 0, 5));
        refuses("180 and the greatest int", ARGUMENT, () -> x.reserve(1, MOST_INT, 0, 5));
        is("it is as before", x.reserved(1), 180);
        is("180 and 20", x.reserve(1, 20, 0, 5), 200);
        refuses("200 and 1", ARGUMENT, () -> x.reserve(1, 1, 0, 5));
        is("another span", x.reserve(1, 60, 0, 6), 60);
        is("another leaf", x.reserve(2, 60, 0, 5), 60);
        is("the sum of all is not bounded", x.reserved(1) + x.reserved(2), 320);
        is("dropped", x.drop(1, 0, 5), 200);
        is("and told anew", x.reserve(1, 60, 0, 5), 60);
    }

    private void reserveTheNinth() {
        about("Promise 20", "Throws `IllegalStateException` if there are 8 reservations, and none for this leaf and this span");
        FairquotaBroker x = leaves(1, 1);
        for (int to = 1; to <= 7; to++) x.reserve(1, 1, 0, to);
        is("there are 7", x.reserve(2, 1, 0, 1), 1);
        refuses("there are 8, another span", STATE, () -> x.reserve(2, 1, 0, 2));
        refuses("there are 8, another leaf", STATE, () -> x.reserve(2, 1, 0, 7));
        is("one for this leaf and this span", x.reserve(1, 1, 0, 7), 2);
        is("and this one", x.reserve(2, 1, 0, 1), 2);
        x.pass(20);
        refuses("they are there though they are past", STATE, () -> x.reserve(2, 1, 30, 31));
        x.drop(1, 0, 1);
        is("there are 7 again", x.reserve(2, 1, 30, 31), 1);
        refuses("there are 8 again", STATE, () -> x.reserve(1, 1, 0, 1));
    }

    private void drop() {
        about("Promise 21", "Drops the reservation for a leaf and a span.");
        FairquotaBroker x = leaves(1, 1);
        x.reserve(1, 1, 0, 5);
        x.reserve(1, 2, 0, 6);
        x.reserve(2, 4, 0, 5);
        x.reserve(1, 8, 1, 5);
        x.drop(1, 0, 5);
        is("no other span, no other leaf", x.reserved(1) + " " + x.reserved(2), "2 4");
        x.pass(1);
        is("no other first tick", x.reserved(1), 10);
        about("Promise 21", "Returns the number of units that were reserved.");
        is("1", x.drop(1, 0, 6), 2);
        x.reserve(2, 60, 0, 5);
        is("added", x.drop(2, 0, 5), 64);
        is("one that holds", x.drop(1, 1, 5), 8);
        x.reserve(1, 3, 9998, 9999);
        is("one ahead", x.drop(1, 9998, 9999), 3);
        x.reserve(1, 5, 0, 1);
        is("one that is past", x.drop(1, 0, 1), 5);
        about("Promise 21", "Throws `NoSuchElementException` if there is no such reservation");
        refuses("none at all", MISSING, () -> x.drop(1, 0, 5));
        x.reserve(1, 5, 2, 4);
        refuses("another leaf", MISSING, () -> x.drop(2, 2, 4));
        refuses("a team with children", MISSING, () -> x.drop(0, 2, 4));
        refuses("no such team", MISSING, () -> x.drop(3, 2, 4));
        refuses("team -1", MISSING, () -> x.drop(-1, 2, 4));
        refuses("the least int", MISSING, () -> x.drop(LEAST_INT, LEAST_INT, LEAST_INT));
        refuses("the greatest int", MISSING, () -> x.drop(MOST_INT, MOST_INT, MOST_INT));
        refuses("one tick less at its beginning", MISSING, () -> x.drop(1, 3, 4));
        refuses("one tick more at its beginning", MISSING, () -> x.drop(1, 1, 4));
        refuses("one tick less at its end", MISSING, () -> x.drop(1, 2, 3));
        refuses("one tick more at its end", MISSING, () -> x.drop(1, 2, 5));
        is("the very one", x.drop(1, 2, 4), 5);
        refuses("it is dropped already", MISSING, () -> x.drop(1, 2, 4));
    }

    private void reserved() {
        about("Promise 22", "Returns what is reserved for a leaf now.");
        FairquotaBroker x = leaves(1, 1);
        x.reserve(1, 4, 2, 3);
        StringBuilder units = new StringBuilder();
        for (int tick = 0; tick < 4; tick++) {
            units.append(x.reserved(1));
            x.pass(1);
        }
        is("in a span of one tick alone", units.toString(), "0040");
        about("Promise 22", "Returns the number of units.");
        FairquotaBroker y = leaves(1, 1);
        is("none", y.reserved(1), 0);
        for (int to = 1; to <= 8; to++) {
            for (int i = 0; i < 4; i++) y.reserve(2, 50, 0, to);
        }
        is("the most", y.reserved(2), 1600);
        is("for the other leaf", y.reserved(1), 0);
        about("Promise 22", "Throws `IndexOutOfBoundsException` if there is no such team");
        refusesOtherTeams(x, team -> x.reserved(team));
        about("Promise 22", "Throws `UnsupportedOperationException` if it has children");
        refuses("the root", UNSUPPORTED, () -> x.reserved(0));
        is("the root as long as it has none", new FairquotaBroker().reserved(0), 0);
    }

    private void lastTicks() {
        about("Promise 22", "Returns what is reserved for a leaf now.");
        FairquotaBroker x = leaves(1, 1);
        x.reserve(1, 7, 9998, 9999);
        passTo(x, 9997);
        is("the tick 9997", x.reserved(1), 0);
        x.pass(1);
        is("the tick 9998", x.reserved(1), 7);
        x.pass(1);
        is("the tick 9999", x.reserved(1), 0);
        x.pass(1);
        is("a span that is past the greatest one", x.reserve(1, 7, 9998, 9999), 14);
    }
}
