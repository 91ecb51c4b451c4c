/** Counts checks, prints each one that is wrong, and ends the program with exit code 1 if there was one. */
final class Check {
    interface Call {
        Object answer();
    }

    private int checks = 0;
    private int wrong = 0;

    void is(String what, Object got, Object due) {
        checks++;
        if (!due.equals(got)) {
            wrong++;
            System.out.println(what + " answered " + got + ", due is " + due);
        }
    }

    /** The very class of the exception is due, not one below it. */
    void refuses(String what, Class<? extends RuntimeException> kind, Call call) {
        is(what, answerOf(call), "throws." + kind.getSimpleName());
    }

    void end(String name) {
        System.out.println(name + ": " + checks + " checks, " + wrong + " wrong");
        if (wrong != 0) {
            System.exit(1);
        }
    }

    static Object answerOf(Call call) {
        try {
            return call.answer();
        } catch (RuntimeException e) {
            return (thrownByCode(e) ? "throws." : "machine.") + e.getClass().getSimpleName();
        }
    }

    /** What the library throws, for an index that was not looked at, has its own place on top. */
    private static boolean thrownByCode(RuntimeException e) {
        StackTraceElement[] places = e.getStackTrace();
        if (places.length == 0) return false;
        String top = places[0].getClassName();
        return top.startsWith("FairquotaBroker") || top.equals("NaiveBroker");
    }
}
