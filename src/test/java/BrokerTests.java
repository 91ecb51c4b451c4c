import java.util.NoSuchElementException;

/** What tests of brokers share: the exceptions by short names, and small brokers. */
abstract class BrokerTests {
    static final Class<IndexOutOfBoundsException> OUT = IndexOutOfBoundsException.class;
    static final Class<IllegalArgumentException> ARGUMENT = IllegalArgumentException.class;
    static final Class<IllegalStateException> STATE = IllegalStateException.class;
    static final Class<UnsupportedOperationException> UNSUPPORTED = UnsupportedOperationException.class;
    static final Class<NoSuchElementException> MISSING = NoSuchElementException.class;
    static final Class<ArithmeticException> ARITHMETIC = ArithmeticException.class;
    static final int LEAST_INT = Integer.MIN_VALUE;
    static final int MOST_INT = Integer.MAX_VALUE;

    /** A root with one leaf for each weight. */
    static FairquotaBroker leaves(int... weights) {
        FairquotaBroker x = new FairquotaBroker();
        for (int weight : weights) x.addTeam(0, weight);
        return x;
    }

    static FairquotaBroker withCapacity(int units, int... weights) {
        FairquotaBroker x = leaves(weights);
        x.setCapacity(units);
        return x;
    }

    static void submitTimes(FairquotaBroker x, int times, int team, int size, int ticks) {
        for (int i = 0; i < times; i++) x.submit(team, size, ticks);
    }

    /** In as few calls as can be: an object has 512 of them. */
    static void passTo(FairquotaBroker x, int tick) {
        int ahead = tick - x.tick();
        for (; ahead > 20; ahead -= 20) x.pass(20);
        if (ahead > 0) x.pass(ahead);
    }

    static String states(FairquotaBroker x) {
        StringBuilder text = new StringBuilder();
        int jobs = x.jobs();
        for (int job = 0; job < jobs; job++) text.append(x.stateOf(job));
        return text.toString();
    }

    static String stops(FairquotaBroker x) {
        StringBuilder text = new StringBuilder();
        int jobs = x.jobs();
        for (int job = 0; job < jobs; job++) text.append(x.stops(job));
        return text.toString();
    }

    static String line(FairquotaBroker x) {
        StringBuilder text = new StringBuilder();
        int teams = x.teams();
        for (int rank = 0; rank < teams; rank++) {
            int place = rank;
            Object leaf = Check.answerOf(() -> x.inLine(place));
            text.append(leaf instanceof Integer ? leaf.toString() : "");
        }
        return text.toString();
    }

    /** The shares of the teams 1 and up. */
    static String shares(FairquotaBroker x) {
        StringBuilder text = new StringBuilder();
        int teams = x.teams();
        for (int team = 1; team < teams; team++) text.append(team == 1 ? "" : " ").append(x.share(team));
        return text.toString();
    }

    static String sharesByLevels(FairquotaBroker x) {
        StringBuilder text = new StringBuilder();
        int teams = x.teams();
        for (int team = 1; team < teams; team++) text.append(team == 1 ? "" : " ").append(x.shareByLevels(team));
        return text.toString();
    }
}
