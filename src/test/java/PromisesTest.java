/** Each promise by its words: ordinary inputs, the edges that the document names, and wrong inputs. */
public final class PromisesTest extends BrokerTests {
    private static final Check CHECK = new Check();

    public static void main(String[] args) {
        promise1();
        promise2();
        promise3();
        promise4();
        promise5();
        promise6();
        promises7to9();
        promise10();
        promise11();
        promise12();
        promises13and14();
        promise15();
        promise16();
        promise17();
        promise18();
        promise19();
        promise20();
        promise21();
        promise22();
        promise23();
        promise24();
        promises25and26();
        promise27();
        promise28();
        promise29();
        promise30();
        promise31();
        promise32();
        CHECK.end("PromisesTest");
    }

    private static void is(String what, Object got, Object due) {
        CHECK.is(what, got, due);
    }

    private static void refuses(String what, Class<? extends RuntimeException> kind, Check.Call call) {
        CHECK.refuses(what, kind, call);
    }

    private static void promise1() {
        FairquotaBroker x = new FairquotaBroker();
        is("1 teams", x.teams(), 1);
        is("1 children", x.children(0), 0);
        is("1 jobs", x.jobs(), 0);
        is("1 tick", x.tick(), 0);
        is("1 freeFor", x.freeFor(0), 20);
        is("1 running", x.running(0), 0);
        is("1 use", x.use(0), 0L);
        is("1 reserved", x.reserved(0), 0);
        is("1 line", line(x), "");
        is("1 capacity", x.setCapacity(20), 20);
        is("1 half-time", x.setHalfTime(10), 10);
    }

    private static void promise2() {
        FairquotaBroker x = new FairquotaBroker();
        refuses("2 parent 1 of 1 team", OUT, () -> x.addTeam(1, 1));
        refuses("2 parent -1", OUT, () -> x.addTeam(-1, 1));
        refuses("2 parent before weight", OUT, () -> x.addTeam(1, 0));
        refuses("2 weight 0", ARGUMENT, () -> x.addTeam(0, 0));
        refuses("2 weight 10", ARGUMENT, () -> x.addTeam(0, 10));
        is("2 nothing added", x.teams(), 1);
        is("2 weight 1", x.addTeam(0, 1), 1);
        is("2 weight 9", x.addTeam(0, 9), 2);
        is("2 weight kept", x.setWeight(2, 9), 9);
        is("2 limit at first", x.setLimit(2, 500), 500);
        is("2 below a leaf", x.addTeam(2, 4), 3);
        is("2 parent", x.parentOf(3), 2);
        refuses("2 a refused job does not claim", ARGUMENT, () -> x.submit(1, 0, 1));
        refuses("2 a refused reservation does not claim", ARGUMENT, () -> x.reserve(1, 0, 0, 1));
        is("2 still no job", x.addTeam(1, 1), 4);
        x.cancel(x.submit(4, 1, 1));
        refuses("2 has had a job", STATE, () -> x.addTeam(4, 1));
        refuses("2 weight before has had a job", ARGUMENT, () -> x.addTeam(4, 0));
        x.reserve(3, 1, 0, 1);
        x.drop(3, 0, 1);
        refuses("2 has had a reservation", STATE, () -> x.addTeam(3, 1));
        for (int team = 5; team < 10; team++) is("2 team " + team, x.addTeam(0, 1), team);
        refuses("2 the 11th team", STATE, () -> x.addTeam(0, 1));
        refuses("2 weight before 10 teams", ARGUMENT, () -> x.addTeam(0, 10));
        refuses("2 parent before 10 teams", OUT, () -> x.addTeam(10, 1));
        is("2 ten teams", x.teams(), 10);
    }

    private static void promise3() {
        FairquotaBroker x = leaves(1, 1);
        refuses("3 team 3", OUT, () -> x.setWeight(3, 0));
        refuses("3 team -1", OUT, () -> x.setWeight(-1, 1));
        refuses("3 root before weight", UNSUPPORTED, () -> x.setWeight(0, 0));
        refuses("3 weight 0", ARGUMENT, () -> x.setWeight(1, 0));
        refuses("3 weight 10", ARGUMENT, () -> x.setWeight(1, 10));
        is("3 unchanged", x.setWeight(1, 9), 1);
        is("3 changed", x.setWeight(1, 1), 9);
        submitTimes(x, 4, 1, 5, 50);
        submitTimes(x, 3, 2, 5, 50);
        is("3 equal shares", states(x), "rrwwrrw");
        x.setWeight(2, 3);
        is("3 the new share is reclaimed at once", states(x), "rwwwrrr");
        is("3 share", x.share(2), 15);
    }

    private static void promise4() {
        FairquotaBroker x = leaves(1, 1);
        refuses("4 team 3", OUT, () -> x.setLimit(3, -1));
        refuses("4 team -1", OUT, () -> x.setLimit(-1, 1));
        refuses("4 root before limit", UNSUPPORTED, () -> x.setLimit(0, -1));
        refuses("4 limit -1", ARGUMENT, () -> x.setLimit(1, -1));
        refuses("4 limit 501", ARGUMENT, () -> x.setLimit(1, 501));
        is("4 at first", x.setLimit(1, 0), 500);
        x.submit(1, 4, 9);
        is("4 nothing starts above the limit", states(x), "w");
        is("4 one less is too little", x.setLimit(1, 3), 0);
        is("4 waits still", states(x), "w");
        is("4 as much as the size", x.setLimit(1, 4), 3);
        is("4 starts at once", states(x), "r");
        is("4 to the edge", x.setLimit(1, 500), 4);
        x.setLimit(1, 2);
        is("4 a lower limit stops nothing", states(x), "r");

        FairquotaBroker y = leaves(1);
        y.addTeam(1, 1);
        y.addTeam(1, 1);
        y.setLimit(1, 6);
        y.submit(2, 4, 9);
        y.submit(3, 3, 9);
        is("4 the limit of a team above", states(y), "rw");
        y.submit(3, 2, 9);
        y.cancel(1);
        is("4 up to the limit of a team above", states(y), "rcr");
    }

    private static void promise5() {
        FairquotaBroker x = new FairquotaBroker();
        refuses("5 capacity -1", ARGUMENT, () -> x.setCapacity(-1));
        refuses("5 capacity 201", ARGUMENT, () -> x.setCapacity(201));
        is("5 to 200", x.setCapacity(200), 20);
        is("5 to 0", x.setCapacity(0), 200);
        x.submit(0, 7, 9);
        is("5 nothing starts", states(x), "w");
        is("5 one too few", x.setCapacity(6), 0);
        is("5 still waits", states(x), "w");
        is("5 enough", x.setCapacity(7), 6);
        is("5 starts at once", states(x), "r");
        refuses("5 less than is run", STATE, () -> x.setCapacity(6));
        refuses("5 range before what is run", ARGUMENT, () -> x.setCapacity(-1));
        is("5 as much as is run", x.setCapacity(7), 7);
    }

    private static void promise6() {
        FairquotaBroker x = new FairquotaBroker();
        refuses("6 half-time 0", ARGUMENT, () -> x.setHalfTime(0));
        refuses("6 half-time 101", ARGUMENT, () -> x.setHalfTime(101));
        is("6 to 100", x.setHalfTime(100), 10);
        is("6 to 1", x.setHalfTime(1), 100);
        x.setHalfTime(3);
        x.submit(0, 5, 50);
        x.pass(2);
        is("6 not yet", x.use(0), 10L);
        x.pass(1);
        is("6 15 by 2, rounded down", x.use(0), 7L);
        is("6 to 2", x.setHalfTime(2), 3);
        is("6 the setting alone halves nothing", x.use(0), 7L);
        x.pass(1);
        is("6 the number of the tick counts", x.use(0), 6L);
    }

    private static void promises7to9() {
        FairquotaBroker x = new FairquotaBroker();
        is("9 none", x.children(0), 0);
        x.addTeam(0, 1);
        x.addTeam(1, 2);
        x.addTeam(1, 3);
        is("7 teams", x.teams(), 4);
        is("8 of 1", x.parentOf(1), 0);
        is("8 of 3", x.parentOf(3), 1);
        refuses("8 root", UNSUPPORTED, () -> x.parentOf(0));
        refuses("8 team 4", OUT, () -> x.parentOf(4));
        refuses("8 team -1", OUT, () -> x.parentOf(-1));
        is("9 direct children alone", x.children(0), 1);
        is("9 two", x.children(1), 2);
        is("9 leaf", x.children(2), 0);
        refuses("9 team 4", OUT, () -> x.children(4));
        refuses("9 team -1", OUT, () -> x.children(-1));
    }

    private static void promise10() {
        FairquotaBroker x = leaves(1, 1);
        refuses("10 team 3", OUT, () -> x.submit(3, 0, 0));
        refuses("10 team -1", OUT, () -> x.submit(-1, 1, 1));
        refuses("10 size before children", ARGUMENT, () -> x.submit(0, 0, 1));
        refuses("10 size 61", ARGUMENT, () -> x.submit(1, 61, 1));
        refuses("10 ticks 0", ARGUMENT, () -> x.submit(1, 1, 0));
        refuses("10 ticks 51", ARGUMENT, () -> x.submit(1, 1, 51));
        refuses("10 children", UNSUPPORTED, () -> x.submit(0, 1, 1));
        is("10 no job yet", x.jobs(), 0);
        is("10 the most", x.submit(1, 60, 50), 0);
        is("10 the least", x.submit(2, 1, 1), 1);
        is("10 all units or none", states(x), "wr");
        for (int job = 2; job < 40; job++) is("10 job " + job, x.submit(1 + job % 2, 1, 9), job);
        refuses("10 40 wait or run", STATE, () -> x.submit(1, 1, 1));
        refuses("10 children before 40", UNSUPPORTED, () -> x.submit(0, 1, 1));
        refuses("10 size before 40", ARGUMENT, () -> x.submit(1, 61, 1));
        x.cancel(5);
        is("10 39 wait or run", x.submit(1, 1, 1), 40);
        x.pass(1);
        is("10 after an end", x.submit(1, 1, 1), 41);
        is("10 jobs", x.jobs(), 42);

        FairquotaBroker y = leaves(1, 1);
        y.submit(1, 60, 9);
        y.submit(2, 10, 9);
        y.submit(2, 11, 9);
        is("10 one more than is idle", states(y), "wrw");
        y.cancel(2);
        y.submit(2, 10, 9);
        is("10 what is idle is borrowed above the due", states(y), "wrcr");
    }

    private static void promise11() {
        FairquotaBroker x = new FairquotaBroker();
        refuses("11 no job", MISSING, () -> x.cancel(0));
        refuses("11 job -1", MISSING, () -> x.cancel(-1));
        x.submit(0, 15, 2);
        x.submit(0, 10, 2);
        x.submit(0, 3, 2);
        is("11 the first job is alone in front", states(x), "rww");
        is("11 a job that waits", x.cancel(1), 0);
        is("11 the next one starts", states(x), "rcr");
        is("11 a job that runs", x.cancel(0), 15);
        is("11 units", x.running(0), 3);
        refuses("11 cancelled", STATE, () -> x.cancel(0));
        x.pass(2);
        refuses("11 ended", STATE, () -> x.cancel(2));
        refuses("11 job 3", MISSING, () -> x.cancel(3));
        x.submit(0, 20, 5);
        x.submit(0, 20, 5);
        is("11 makes room", x.cancel(3), 20);
        is("11 starts at once", states(x), "ccecr");
        submitTimes(x, 3, 0, 8, 5);
        x.cancel(4);
        is("11 all that can start do", states(x), "cceccrrw");
    }

    private static void promise12() {
        FairquotaBroker x = new FairquotaBroker();
        refuses("12 ticks 0", ARGUMENT, () -> x.pass(0));
        refuses("12 ticks 21", ARGUMENT, () -> x.pass(21));
        refuses("12 ticks -1", ARGUMENT, () -> x.pass(-1));
        is("12 no tick yet", x.tick(), 0);
        submitTimes(x, 3, 0, 20, 2);
        is("12 none ends", x.pass(1), 0);
        is("12 one ends", x.pass(1), 1);
        is("12 served at the end of each tick", x.pass(4), 2);
        is("12 all ended", states(x), "eee");
        is("12 20 ticks", x.pass(20), 0);
        is("12 tick", x.tick(), 26);
    }

    private static void promises13and14() {
        FairquotaBroker x = new FairquotaBroker();
        is("13 at first", x.tick(), 0);
        is("14 at first", x.jobs(), 0);
        x.pass(7);
        x.pass(1);
        is("13 eight", x.tick(), 8);
        x.submit(0, 1, 1);
        x.submit(0, 1, 1);
        x.cancel(0);
        x.pass(1);
        is("14 cancelled and ended ones too", x.jobs(), 2);
    }

    private static void promise15() {
        FairquotaBroker x = new FairquotaBroker();
        refuses("15 no job", MISSING, () -> x.stateOf(0));
        x.submit(0, 20, 1);
        x.submit(0, 20, 9);
        x.submit(0, 20, 9);
        x.cancel(2);
        is("15 runs", x.stateOf(0), 'r');
        is("15 waits", x.stateOf(1), 'w');
        is("15 cancelled", x.stateOf(2), 'c');
        x.pass(1);
        is("15 ended", x.stateOf(0), 'e');
        is("15 runs then", x.stateOf(1), 'r');
        refuses("15 job -1", MISSING, () -> x.stateOf(-1));
        refuses("15 job 3", MISSING, () -> x.stateOf(3));
    }

    private static void promise16() {
        FairquotaBroker x = leaves(1, 1);
        refuses("16 no job", MISSING, () -> x.toGo(0));
        x.submit(1, 20, 9);
        is("16 at first", x.toGo(0), 9);
        x.pass(2);
        is("16 two less", x.toGo(0), 7);
        x.submit(2, 10, 3);
        is("16 stopped", states(x), "wr");
        is("16 all its ticks, if it waits", x.toGo(0), 9);
        x.pass(3);
        is("16 starts anew", states(x), "re");
        is("16 with all its ticks", x.toGo(0), 9);
        refuses("16 ended", STATE, () -> x.toGo(1));
        x.cancel(0);
        refuses("16 cancelled", STATE, () -> x.toGo(0));
        refuses("16 job -1", MISSING, () -> x.toGo(-1));
        refuses("16 job 2", MISSING, () -> x.toGo(2));
    }

    private static void promise17() {
        FairquotaBroker x = leaves(1, 1, 1);
        refuses("17 no job", MISSING, () -> x.stops(0));
        submitTimes(x, 4, 1, 5, 50);
        x.submit(2, 5, 2);
        is("17 the one that started last", states(x), "rrrwr");
        is("17 once", x.stops(3), 1);
        is("17 not the others", x.stops(2) + x.stops(4), 0);
        x.pass(2);
        is("17 starts again", states(x), "rrrre");
        x.submit(3, 5, 9);
        is("17 twice", x.stops(3), 2);
        x.cancel(3);
        is("17 cancelled", x.stops(3), 2);
        refuses("17 job -1", MISSING, () -> x.stops(-1));
        refuses("17 job 6", MISSING, () -> x.stops(6));

        FairquotaBroker y = leaves(1, 1);
        submitTimes(y, 2, 1, 10, 50);
        y.submit(2, 11, 9);
        is("17 not above the due", states(y), "rrw");
        y.submit(2, 1, 9);
        is("17 the first job alone", states(y), "rrww");
        y.cancel(2);
        is("17 all that it needs, and no more", states(y), "rwcr");
        is("17 stopped by one unit", y.stops(1), 1);

        FairquotaBroker z = leaves(1, 1);
        submitTimes(z, 4, 1, 5, 50);
        z.setLimit(2, 0);
        z.submit(2, 5, 9);
        z.submit(2, 10, 9);
        z.setLimit(2, 500);
        is("17 room enough to the unit", states(z), "rrrwrw");
        is("17 no other one, though its leaf runs more than its due", z.stops(2), 0);
    }

    private static void promise18() {
        FairquotaBroker x = leaves(1, 1);
        refuses("18 team 3", OUT, () -> x.firstOf(3));
        refuses("18 team -1", OUT, () -> x.firstOf(-1));
        refuses("18 children", UNSUPPORTED, () -> x.firstOf(0));
        refuses("18 none", MISSING, () -> x.firstOf(1));
        x.submit(1, 20, 9);
        refuses("18 runs", MISSING, () -> x.firstOf(1));
        x.submit(1, 20, 9);
        x.submit(1, 1, 9);
        is("18 the lowest number", x.firstOf(1), 1);
        x.cancel(1);
        is("18 the next one", x.firstOf(1), 2);
        x.submit(2, 1, 9);
        is("18 a stopped job stands by its number", x.firstOf(1), 0);
    }

    private static void promise19() {
        FairquotaBroker x = leaves(3, 2, 1);
        refuses("19 nobody waits", MISSING, () -> x.inLine(0));
        x.submit(1, 6, 1);
        x.submit(2, 5, 1);
        x.submit(3, 2, 1);
        x.pass(1);
        is("19 the use is by what runs after the ends", x.use(1) + x.use(2) + x.use(3), 0L);
        x.submit(1, 6, 2);
        x.submit(2, 5, 2);
        x.submit(3, 2, 2);
        x.pass(1);
        is("19 use", x.use(1) * 100 + x.use(2) * 10 + x.use(3), 652L);
        x.submit(2, 60, 1);
        x.submit(1, 60, 1);
        is("19 5 by 2 behind 6 by 3", line(x), "12");
        x.submit(3, 60, 1);
        is("19 of equal ones the lower number first", line(x), "132");
        x.setWeight(2, 9);
        is("19 by the new weight", line(x), "213");
        is("19 rank 0", x.inLine(0), 2);
        refuses("19 rank -1", MISSING, () -> x.inLine(-1));
        refuses("19 rank 3", MISSING, () -> x.inLine(3));
        FairquotaBroker y = new FairquotaBroker();
        y.submit(0, 60, 1);
        is("19 the root as a leaf", y.inLine(0), 0);
    }

    private static void promise20() {
        FairquotaBroker x = leaves(1, 1);
        refuses("20 team 3", OUT, () -> x.reserve(3, 0, 0, 0));
        refuses("20 team -1", OUT, () -> x.reserve(-1, 1, 0, 1));
        refuses("20 units 0", ARGUMENT, () -> x.reserve(1, 0, 0, 1));
        refuses("20 units 61", ARGUMENT, () -> x.reserve(1, 61, 0, 1));
        refuses("20 from -1", ARGUMENT, () -> x.reserve(1, 1, -1, 1));
        refuses("20 from 10000", ARGUMENT, () -> x.reserve(1, 1, 10000, 10001));
        refuses("20 empty span", ARGUMENT, () -> x.reserve(1, 1, 5, 5));
        refuses("20 to before from", ARGUMENT, () -> x.reserve(1, 1, 5, 4));
        refuses("20 to 10000", ARGUMENT, () -> x.reserve(1, 1, 5, 10000));
        refuses("20 number before children", ARGUMENT, () -> x.reserve(0, 61, 0, 1));
        refuses("20 children", UNSUPPORTED, () -> x.reserve(0, 1, 0, 1));
        is("20 the most", x.reserve(1, 60, 9998, 9999), 60);
        is("20 added", x.reserve(1, 60, 9998, 9999), 120);
        is("20 up", x.reserve(1, 60, 9998, 9999), 180);
        refuses("20 the sum 201", ARGUMENT, () -> x.reserve(1, 21, 9998, 9999));
        is("20 the sum 200", x.reserve(1, 20, 9998, 9999), 200);
        is("20 another leaf", x.reserve(2, 1, 9998, 9999), 1);
        is("20 another span", x.reserve(1, 1, 9997, 9999), 1);
        for (int to = 1; to < 6; to++) is("20 span to " + to, x.reserve(1, 60, 0, to), 60);
        refuses("20 the 9th", STATE, () -> x.reserve(1, 1, 0, 6));
        refuses("20 children before the 9th", UNSUPPORTED, () -> x.reserve(0, 1, 0, 6));
        is("20 there are 8, but one is this", x.reserve(2, 2, 9998, 9999), 3);
        refuses("20 the sum, though there are 8", ARGUMENT, () -> x.reserve(1, 1, 9998, 9999));
        is("20 sums of other spans are free", x.reserved(1), 300);
        x.pass(9);
        refuses("20 past ones are there still", STATE, () -> x.reserve(1, 1, 0, 6));

        FairquotaBroker y = leaves(1, 1);
        y.submit(1, 7, 50);
        y.submit(1, 7, 50);
        y.submit(1, 6, 50);
        y.submit(2, 12, 50);
        is("20 more than the share", states(y), "rrrw");
        y.reserve(2, 11, 0, 9);
        is("20 one too few to reclaim", states(y), "rrrw");
        y.reserve(2, 1, 0, 9);
        is("20 reclaimed at once", states(y), "rwwr");
    }

    private static void promise21() {
        FairquotaBroker x = leaves(1, 1);
        refuses("21 none", MISSING, () -> x.drop(1, 0, 5));
        refuses("21 no such team", MISSING, () -> x.drop(7, 0, 5));
        x.reserve(1, 15, 0, 5);
        x.reserve(1, 4, 0, 5);
        x.submit(2, 2, 9);
        is("21 kept for the other leaf", states(x), "w");
        refuses("21 another leaf", MISSING, () -> x.drop(2, 0, 5));
        refuses("21 another first tick", MISSING, () -> x.drop(1, 1, 5));
        refuses("21 another end", MISSING, () -> x.drop(1, 0, 4));
        is("21 the units", x.drop(1, 0, 5), 19);
        is("21 starts at once", states(x), "r");
        refuses("21 again", MISSING, () -> x.drop(1, 0, 5));
        is("21 reserved", x.reserved(1), 0);
        x.reserve(1, 1, 3, 4);
        x.pass(9);
        is("21 a past one", x.drop(1, 3, 4), 1);
    }

    private static void promise22() {
        FairquotaBroker x = leaves(1, 1);
        x.reserve(1, 4, 1, 3);
        x.reserve(1, 7, 2, 4);
        x.reserve(2, 9, 0, 9);
        is("22 ahead", x.reserved(1), 0);
        x.pass(1);
        is("22 from the first tick", x.reserved(1), 4);
        x.pass(1);
        is("22 the sum", x.reserved(1), 11);
        x.pass(1);
        is("22 not at the end", x.reserved(1), 7);
        x.pass(1);
        is("22 over", x.reserved(1), 0);
        refuses("22 team 3", OUT, () -> x.reserved(3));
        refuses("22 team -1", OUT, () -> x.reserved(-1));
        refuses("22 children", UNSUPPORTED, () -> x.reserved(0));
    }

    private static void promise23() {
        FairquotaBroker x = leaves(1, 1);
        x.addTeam(1, 1);
        x.addTeam(1, 1);
        x.submit(3, 4, 2);
        x.submit(4, 5, 1);
        x.submit(2, 6, 9);
        x.submit(2, 6, 9);
        is("23 leaf", x.running(3), 4);
        is("23 parent", x.running(1), 9);
        is("23 root", x.running(0), 15);
        x.pass(1);
        is("23 after an end", x.running(1), 4);
        is("23 waiting ones start", x.running(2), 12);
        x.cancel(0);
        is("23 after a cancel", x.running(1), 0);
        refuses("23 team 5", OUT, () -> x.running(5));
        refuses("23 team -1", OUT, () -> x.running(-1));
    }

    private static void promise24() {
        FairquotaBroker x = leaves(1, 1);
        x.addTeam(1, 1);
        x.addTeam(1, 1);
        x.submit(3, 15, 9);
        x.submit(4, 30, 9);
        x.submit(2, 5, 1);
        is("24 runs or waits", states(x), "rwr");
        is("24 leaf that waits", x.demand(4), 30);
        is("24 parent", x.demand(1), 45);
        is("24 root", x.demand(0), 50);
        x.setLimit(4, 10);
        is("24 at most the limit", x.demand(4), 10);
        is("24 the sum of the limited", x.demand(1), 25);
        x.setLimit(1, 20);
        is("24 at most the parent's limit", x.demand(1), 20);
        is("24 not the child's", x.demand(3), 15);
        is("24 root by limited ones", x.demand(0), 25);
        x.pass(1);
        is("24 after an end", x.demand(0), 20);
        x.cancel(0);
        is("24 after a cancel", x.demand(1), 10);
        refuses("24 team 5", OUT, () -> x.demand(5));
        refuses("24 team -1", OUT, () -> x.demand(-1));
        FairquotaBroker y = new FairquotaBroker();
        submitTimes(y, 10, 0, 60, 1);
        is("24 the root has no limit", y.demand(0), 600);
    }

    private static void shares(String what, FairquotaBroker x, int... due) {
        for (int team = 0; team < due.length; team++) {
            is("25 " + what + ", team " + team, x.share(team), due[team]);
            is("26 " + what + ", team " + team, x.shareByLevels(team), due[team]);
        }
    }

    private static void promises25and26() {
        FairquotaBroker x = leaves(1, 2, 4);
        shares("nobody asks", x, 0, 0, 0, 0);
        x.submit(1, 20, 9);
        shares("one asks", x, 20, 20, 0, 0);
        x.submit(2, 20, 9);
        x.submit(3, 20, 9);
        // 20 is twice 1 + 2 + 4, and 6 more: 1 to each, 2 at the half, then 3 at a quarter, half, three quarters.
        shares("by weights", x, 20, 3, 6, 11);
        x.setCapacity(21);
        shares("a full level", x, 21, 3, 6, 12);
        x.setCapacity(22);
        shares("of equal ones the lowest number", x, 22, 4, 6, 12);
        x.setCapacity(23);
        shares("then the next one", x, 23, 4, 7, 12);
        x.setLimit(3, 5);
        shares("at most the demand", x, 23, 6, 12, 5);
        x.setCapacity(60);
        shares("all demands", x, 45, 20, 20, 5);
        x.setCapacity(200);
        shares("no more than is asked", x, 45, 20, 20, 5);

        FairquotaBroker y = leaves(3, 1);
        y.addTeam(1, 1);
        y.addTeam(1, 9);
        y.addTeam(2, 5);
        y.submit(3, 40, 9);
        y.submit(4, 6, 9);
        y.submit(5, 40, 9);
        shares("down the tree", y, 20, 15, 5, 9, 6, 5);
        y.setLimit(1, 8);
        shares("a limit in the middle", y, 20, 8, 12, 2, 6, 12);
        y.setCapacity(6);
        shares("few units", y, 6, 4, 2, 1, 3, 2);
        y.setCapacity(200);
        y.setLimit(1, 500);
        shares("enough for all", y, 86, 46, 40, 40, 6, 40);
        refuses("25 team 6", OUT, () -> y.share(6));
        refuses("25 team -1", OUT, () -> y.share(-1));
        refuses("26 team 6", OUT, () -> y.shareByLevels(6));
        refuses("26 team -1", OUT, () -> y.shareByLevels(-1));

        FairquotaBroker z = new FairquotaBroker();
        z.setCapacity(200);
        submitTimes(z, 4, 0, 60, 9);
        shares("the root as a leaf", z, 200);
    }

    private static void promise27() {
        FairquotaBroker x = leaves(1, 1);
        x.submit(1, 8, 9);
        is("27 the share", x.due(1), 8);
        x.reserve(1, 7, 0, 2);
        is("27 less is reserved", x.due(1), 8);
        x.reserve(1, 2, 0, 2);
        is("27 more is reserved", x.due(1), 9);
        x.reserve(2, 3, 1, 2);
        is("27 reserved ahead", x.due(2), 0);
        x.pass(1);
        is("27 reserved now", x.due(2), 3);
        x.pass(1);
        is("27 reserved no more", x.due(1), 8);
        refuses("27 team 3", OUT, () -> x.due(3));
        refuses("27 team -1", OUT, () -> x.due(-1));
        refuses("27 children", UNSUPPORTED, () -> x.due(0));
    }

    private static void promise28() {
        FairquotaBroker x = leaves(1, 1, 1);
        x.submit(1, 8, 9);
        is("28 what is not run", x.freeFor(2), 12);
        x.reserve(2, 5, 0, 3);
        is("28 not what is reserved for another one", x.freeFor(1), 7);
        is("28 but what is reserved for itself", x.freeFor(2), 12);
        x.reserve(1, 10, 0, 3);
        is("28 minus what is reserved and not run", x.freeFor(2), 10);
        x.reserve(2, 60, 0, 3);
        is("28 less than 0", x.freeFor(3), -55);
        x.submit(2, 10, 3);
        is("28 run of it", states(x), "rr");
        is("28 counts once", x.freeFor(3), 20 - 18 - 2 - 55);
        x.pass(3);
        is("28 over", x.freeFor(3), 12);
        refuses("28 team 4", OUT, () -> x.freeFor(4));
        refuses("28 team -1", OUT, () -> x.freeFor(-1));
        refuses("28 children", UNSUPPORTED, () -> x.freeFor(0));

        FairquotaBroker y = leaves(1, 1);
        y.submit(1, 11, 50);
        y.reserve(1, 10, 0, 50);
        y.reserve(2, 15, 0, 50);
        y.submit(2, 15, 50);
        is("28 what a stop frees can be reserved itself", states(y), "rw");
        is("28 none is stopped if they do not become enough", y.stops(0), 0);
    }

    private static void promise29() {
        FairquotaBroker x = leaves(1, 1);
        is("29 at first", x.use(1), 0L);
        x.submit(1, 7, 3);
        x.pass(1);
        is("29 what it runs", x.use(1), 7L);
        x.pass(1);
        is("29 is added", x.use(1), 14L);
        x.pass(1);
        is("29 not by what ends", x.use(1), 14L);
        is("29 another leaf", x.use(2), 0L);
        x.submit(2, 3, 50);
        x.pass(6);
        is("29 before the half-time", x.use(2), 18L);
        x.pass(1);
        is("29 increased, then halved, rounded down", x.use(2), 10L);
        is("29 halved without a job", x.use(1), 7L);
        x.pass(10);
        is("29 halved at the tick 20", x.use(2), 20L);
        is("29 rounded down", x.use(1), 3L);
        refuses("29 team 3", OUT, () -> x.use(3));
        refuses("29 team -1", OUT, () -> x.use(-1));
        refuses("29 children", UNSUPPORTED, () -> x.use(0));
    }

    private static void promise30() {
        FairquotaBroker x = new FairquotaBroker();
        is("30 nothing", x.usedShare(), 0.0f);
        x.setCapacity(30);
        x.submit(0, 10, 2);
        is("30 a third", x.usedShare(), 10.0f / 30.0f);
        x.setCapacity(10);
        is("30 all", x.usedShare(), 1.0f);
        x.pass(2);
        x.setCapacity(0);
        refuses("30 capacity 0", ARITHMETIC, () -> x.usedShare());
    }

    private static void promise31() {
        FairquotaBroker x = leaves(1, 1);
        refuses("31 none", ARITHMETIC, () -> x.meanStops());
        x.submit(1, 20, 2);
        x.submit(2, 2, 1);
        refuses("31 stopped, but none has ended", ARITHMETIC, () -> x.meanStops());
        x.cancel(x.submit(2, 1, 9));
        refuses("31 cancelled ones do not count", ARITHMETIC, () -> x.meanStops());
        x.pass(1);
        is("31 not stopped", x.meanStops(), 0.0);
        x.pass(2);
        is("31 a half", x.meanStops(), 0.5);
        x.submit(1, 1, 1);
        x.pass(1);
        is("31 a third", x.meanStops(), 1.0 / 3.0);
    }

    private static void promise32() {
        FairquotaBroker x = leaves(3, 2);
        x.addTeam(1, 1);
        x.addTeam(1, 9);
        is("32 a new one", x.isFair(), true);
        x.setCapacity(17);
        for (int i = 0; i < 12; i++) {
            x.submit(2 + i % 3, 1 + i * 5 % 7, 3 + i % 4);
            is("32 after job " + i, x.isFair(), true);
        }
        x.reserve(2, 9, 2, 6);
        x.setLimit(1, 9);
        for (int i = 0; i < 9; i++) {
            x.pass(1);
            is("32 after tick " + i, x.isFair(), true);
        }
        String before = states(x) + line(x);
        x.isFair();
        is("32 asking changes nothing", states(x) + line(x), before);
    }
}
