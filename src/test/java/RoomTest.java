import java.lang.management.ManagementFactory;

/** What a run makes is kept in one room: dear runs of 512 calls must stay far below it. */
public final class RoomTest {
    private static final int CALLS = 512;
    /** The room's 7.3 million fields and elements, were each of 4 bytes, are more than ten times this. */
    private static final long MOST_BYTES = 2_000_000;

    public static void main(String[] args) {
        Check check = new Check();
        for (int kind = 0; kind < 4; kind++) {
            run(kind, 20);
            long bytes = allocated();
            run(kind, CALLS);
            bytes = allocated() - bytes;
            check.is("run " + kind + " with " + bytes + " bytes within its room", bytes < MOST_BYTES, true);
        }
        beyondTheLastCall(check);
        check.end("RoomTest");
    }

    private static long allocated() {
        com.sun.management.ThreadMXBean threads =
                (com.sun.management.ThreadMXBean) ManagementFactory.getThreadMXBean();
        return threads.getThreadAllocatedBytes(Thread.currentThread().getId());
    }

    private static void run(int kind, int calls) {
        FairquotaBroker x = new FairquotaBroker();
        for (int team = 1; team < 10; team++) x.addTeam(kind == 0 ? 0 : team / 3, team);
        x.setCapacity(kind == 1 ? 20 : 200);
        int leaf = 4;
        for (int i = 10; i < calls; i++) {
            leaf = leaf == 9 ? 4 : leaf + 1;
            if (x.jobs() < 40 || i % 2 == 0 && kind != 2) Check.answerOf(submitted(x, leaf, i));
            else if (kind == 3) x.isFair();
            else x.pass(kind == 1 ? 1 : 20);
        }
    }

    private static Check.Call submitted(FairquotaBroker x, int leaf, int i) {
        return () -> x.submit(leaf, 1 + i * 7 % 60, 1 + i % 50);
    }

    /** What is answered there is free, but no call may answer with what the machine throws. */
    private static void beyondTheLastCall(Check check) {
        FairquotaBroker x = new FairquotaBroker();
        x.setCapacity(200);
        int refused = 0;
        for (int i = 0; i < 3000; i++) {
            Object answer = Check.answerOf(() -> x.submit(0, 60, 1));
            if (answer.equals("throws.IllegalStateException")) refused++;
            else check.is("job", answer, i - refused);
            x.pass(20);
        }
        check.is("jobs beyond the last call are refused", x.jobs(), 512);
    }
}
