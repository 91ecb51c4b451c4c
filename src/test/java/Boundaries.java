/** Some of the sentences of the document that name a boundary case, each with checks on both sides of it. */
abstract class Boundaries extends BrokerTests {
    private final Sentences sentences;

    Boundaries(Sentences sentences) {
        this.sentences = sentences;
    }

    abstract void checkAll();

    void about(String section, String words) {
        sentences.about(section, words);
    }

    void is(String what, Object got, Object due) {
        sentences.is(what, got, due);
    }

    void refuses(String what, Class<? extends RuntimeException> kind, Check.Call call) {
        sentences.refuses(what, kind, call);
    }

    /** A call that takes the number of a team. */
    interface TeamCall {
        Object of(int team);
    }

    /** The numbers next to those of the teams on both sides, and the farthest ones. */
    void refusesOtherTeams(FairquotaBroker x, TeamCall call) {
        int teams = x.teams();
        refuses("team -1", OUT, () -> call.of(-1));
        refuses("a team as high as their number, " + teams, OUT, () -> call.of(teams));
        refuses("the least int", OUT, () -> call.of(LEAST_INT));
        refuses("the greatest int", OUT, () -> call.of(MOST_INT));
    }

    /** A call that takes the number of a job. */
    interface JobCall {
        Object of(int job);
    }

    void refusesOtherJobs(FairquotaBroker x, JobCall call) {
        int jobs = x.jobs();
        refuses("job -1", MISSING, () -> call.of(-1));
        refuses("a job as high as their number, " + jobs, MISSING, () -> call.of(jobs));
        refuses("the least int", MISSING, () -> call.of(LEAST_INT));
        refuses("the greatest int", MISSING, () -> call.of(MOST_INT));
    }
}
