import java.lang.reflect.Field;
import java.util.List;

/**
 * No call can leave a broker unfair, so that only a change of its private fields shows that isFair
 * answers false as soon as one of the things that promise 32 names does not hold.
 */
public final class InsideTest {
    private static final Check CHECK = new Check();

    public static void main(String[] args) throws ReflectiveOperationException {
        capacities();
        levels();
        CHECK.end("InsideTest");
    }

    private static void fair(String what, FairquotaBroker x, boolean due) {
        CHECK.is("Promise 32: Returns whether this holds. | " + what, x.isFair(), due);
    }

    /** One leaf runs all 20 units, another one waits for 15, in a broker with another capacity than it had. */
    private static void capacities() throws ReflectiveOperationException {
        FairquotaBroker x = new FairquotaBroker();
        x.addTeam(0, 1);
        x.addTeam(0, 1);
        x.submit(1, 20, 9);
        x.submit(2, 15, 9);
        fair("all units run", x, true);
        set(x, "capacity", 19);
        fair("the root runs one unit more than the capacity", x, false);
        set(x, "capacity", 29);
        fair("a share of 14 is one too little to reclaim 15", x, true);
        set(x, "capacity", 30);
        fair("a first job can reclaim", x, false);
        x.setLimit(2, 14);
        fair("but for its limit", x, true);
        set(x, "capacity", 35);
        fair("nor can it start", x, true);
        set(team(x, 2), "limit", 15);
        fair("a first job can start", x, false);
        set(x, "capacity", 20);
        fair("fair again", x, true);
    }

    /** A weight of 0, which no call can set: unit by unit its team gets one unit, by levels none. */
    private static void levels() throws ReflectiveOperationException {
        FairquotaBroker x = new FairquotaBroker();
        x.addTeam(0, 1);
        x.addTeam(0, 1);
        x.submit(1, 20, 9);
        x.submit(2, 20, 9);
        fair("shares are the same by levels", x, true);
        set(team(x, 1), "weight", 0);
        CHECK.is("unit by unit", x.share(1), 1);
        CHECK.is("by levels", x.shareByLevels(1), 0);
        fair("shares are other ones by levels", x, false);
        set(team(x, 1), "weight", 1);
        fair("the same again", x, true);
    }

    private static Object team(FairquotaBroker x, int number) throws ReflectiveOperationException {
        return ((List<?>) field(x, "allTeams").get(x)).get(number);
    }

    private static void set(Object holder, String name, int value) throws ReflectiveOperationException {
        field(holder, name).setInt(holder, value);
    }

    private static Field field(Object holder, String name) throws ReflectiveOperationException {
        Field found = holder.getClass().getDeclaredField(name);
        found.setAccessible(true);
        return found;
    }
}
