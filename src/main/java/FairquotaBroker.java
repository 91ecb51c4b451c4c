import java.util.ArrayList;
import java.util.NoSuchElementException;

/** A broker that shares the units of a cluster among a tree of teams and their gangs of work. */
public final class FairquotaBroker {
    private static final int MOST_TEAMS = 10;
    private static final int MOST_WEIGHT = 9;
    private static final int MOST_LIMIT = 500;
    private static final int FIRST_CAPACITY = 20;
    private static final int MOST_CAPACITY = 200;
    private static final int FIRST_HALF_TIME = 10;
    private static final int MOST_HALF_TIME = 100;
    private static final int MOST_SIZE = 60;
    private static final int MOST_JOB_TICKS = 50;
    private static final int MOST_ALIVE_JOBS = 40;
    private static final int MOST_PASSED_TICKS = 20;
    private static final int MOST_RESERVATIONS = 8;
    private static final int MOST_RESERVED_AT_ONCE = 60;
    private static final int MOST_RESERVED_IN_SUM = 200;
    private static final int LAST_RESERVED_TICK = 9999;
    /** No object is used for more calls than this, so more jobs than this are never kept. */
    private static final int MOST_JOBS = 512;
    /** A serving needs some 1700 rounds at most: see serve. */
    private static final int MOST_ROUNDS = 1000000;

    private static final char WAITS = 'w';
    private static final char RUNS = 'r';
    private static final char ENDED = 'e';
    private static final char CANCELLED = 'c';

    /** By rising numbers; a parent has a lower number than its children. */
    private final ArrayList<Team> allTeams = new ArrayList<>();
    private final Team root = new Team(0, null, 1);
    private final ArrayList<Job> allJobs = new ArrayList<>();
    /** The jobs that wait or run, by rising numbers. */
    private final ArrayList<Job> aliveJobs = new ArrayList<>();
    private final ArrayList<Reservation> allReservations = new ArrayList<>();
    /** The first job of each leaf that has one, in the order of the line; formLine forms it. */
    private final ArrayList<Job> line = new ArrayList<>();
    /** The jobs that must be stopped for the job that canStartOrReclaim was asked for last. */
    private final ArrayList<Job> victims = new ArrayList<>();
    private int capacity = FIRST_CAPACITY;
    private int halfTime = FIRST_HALF_TIME;
    private int now = 0;
    private int startsSoFar = 0;

    public FairquotaBroker() {
        allTeams.add(root);
    }

    // ---- Teams

    public int addTeam(int parent, int weight)
            throws IndexOutOfBoundsException, IllegalArgumentException, IllegalStateException {
        Team above = teamAt(parent);
        requireRange(weight, 1, MOST_WEIGHT);
        if (allTeams.size() >= MOST_TEAMS || above.wasClaimed) {
            throw new IllegalStateException("no team can be added here");
        }
        Team added = new Team(allTeams.size(), above, weight);
        allTeams.add(added);
        above.children.add(added);
        serve();
        return added.number;
    }

    public int setWeight(int team, int weight)
            throws IndexOutOfBoundsException, UnsupportedOperationException, IllegalArgumentException {
        Team changed = teamBelowRoot(team);
        requireRange(weight, 1, MOST_WEIGHT);
        int before = changed.weight;
        changed.weight = weight;
        serve();
        return before;
    }

    public int setLimit(int team, int limit)
            throws IndexOutOfBoundsException, UnsupportedOperationException, IllegalArgumentException {
        Team changed = teamBelowRoot(team);
        requireRange(limit, 0, MOST_LIMIT);
        int before = changed.limit;
        changed.limit = limit;
        serve();
        return before;
    }

    public int setCapacity(int units) throws IllegalArgumentException, IllegalStateException {
        requireRange(units, 0, MOST_CAPACITY);
        if (units < root.runs) {
            throw new IllegalStateException("more than that is run");
        }
        int before = capacity;
        capacity = units;
        serve();
        return before;
    }

    public int setHalfTime(int ticks) throws IllegalArgumentException {
        requireRange(ticks, 1, MOST_HALF_TIME);
        int before = halfTime;
        halfTime = ticks;
        serve();
        return before;
    }

    public int teams() {
        return allTeams.size();
    }

    public int parentOf(int team) throws IndexOutOfBoundsException, UnsupportedOperationException {
        Team above = teamBelowRoot(team).parent;
        return above == null ? 0 : above.number;
    }

    public int children(int team) throws IndexOutOfBoundsException {
        return teamAt(team).children.size();
    }

    // ---- Jobs

    public int submit(int team, int size, int ticks)
            throws IndexOutOfBoundsException, IllegalArgumentException, UnsupportedOperationException,
            IllegalStateException {
        Team leaf = teamAt(team);
        requireRange(size, 1, MOST_SIZE);
        requireRange(ticks, 1, MOST_JOB_TICKS);
        requireLeaf(leaf);
        if (aliveJobs.size() >= MOST_ALIVE_JOBS || allJobs.size() >= MOST_JOBS) {
            throw new IllegalStateException("too many jobs");
        }
        Job job = new Job(allJobs.size(), leaf, size, ticks);
        allJobs.add(job);
        aliveJobs.add(job);
        leaf.wasClaimed = true;
        serve();
        return job.number;
    }

    public int cancel(int job) throws NoSuchElementException, IllegalStateException {
        Job cancelled = aliveJobAt(job);
        int unused = 0;
        if (cancelled.state == RUNS) {
            unused = cancelled.size;
            cancelled.giveUnitsBack();
        }
        cancelled.state = CANCELLED;
        forgetDeadJobs();
        serve();
        return unused;
    }

    public int pass(int ticks) throws IllegalArgumentException {
        requireRange(ticks, 1, MOST_PASSED_TICKS);
        int ended = 0;
        for (int passed = 0; passed < ticks; passed++) {
            now++;
            ended += endJobs();
            changeUse();
            serve();
        }
        return ended;
    }

    public int tick() {
        return now;
    }

    public int jobs() {
        return allJobs.size();
    }

    public char stateOf(int job) throws NoSuchElementException {
        return jobAt(job).state;
    }

    public int toGo(int job) throws NoSuchElementException, IllegalStateException {
        Job asked = aliveJobAt(job);
        return asked.state == RUNS ? asked.ticksToGo : asked.ticks;
    }

    public int stops(int job) throws NoSuchElementException {
        return jobAt(job).timesStopped;
    }

    public int firstOf(int team)
            throws IndexOutOfBoundsException, UnsupportedOperationException, NoSuchElementException {
        Job first = firstJob(leafAt(team));
        if (first == null) {
            throw new NoSuchElementException("no job waits");
        }
        return first.number;
    }

    public int inLine(int rank) throws NoSuchElementException {
        formLine();
        if (rank < 0 || rank >= line.size()) {
            throw new NoSuchElementException("no such rank");
        }
        return line.get(rank).leaf.number;
    }

    // ---- Reservations

    public int reserve(int team, int units, int from, int to)
            throws IndexOutOfBoundsException, IllegalArgumentException, UnsupportedOperationException,
            IllegalStateException {
        Team leaf = teamAt(team);
        requireRange(units, 1, MOST_RESERVED_AT_ONCE);
        requireRange(from, 0, LAST_RESERVED_TICK);
        requireRange(to, from + 1, LAST_RESERVED_TICK);
        Reservation same = reservationFor(team, from, to);
        if (same != null) {
            requireRange(same.units + units, 1, MOST_RESERVED_IN_SUM);
        }
        requireLeaf(leaf);
        if (same == null) {
            if (allReservations.size() >= MOST_RESERVATIONS) {
                throw new IllegalStateException("too many reservations");
            }
            same = new Reservation(leaf, from, to);
            allReservations.add(same);
        }
        same.units += units;
        leaf.wasClaimed = true;
        serve();
        return same.units;
    }

    public int drop(int team, int from, int to) throws NoSuchElementException {
        Reservation dropped = reservationFor(team, from, to);
        if (dropped == null) {
            throw new NoSuchElementException("no such reservation");
        }
        forgetReservation(dropped);
        serve();
        return dropped.units;
    }

    public int reserved(int team) throws IndexOutOfBoundsException, UnsupportedOperationException {
        Team leaf = leafAt(team);
        reckonHeldUnits();
        return leaf.heldUnits;
    }

    // ---- Shares

    public int running(int team) throws IndexOutOfBoundsException {
        return teamAt(team).runs;
    }

    public int demand(int team) throws IndexOutOfBoundsException {
        Team asked = teamAt(team);
        reckonDemands();
        return asked.demand;
    }

    public int share(int team) throws IndexOutOfBoundsException {
        Team asked = teamAt(team);
        reckonDemands();
        dealShares();
        return asked.share;
    }

    public int shareByLevels(int team) throws IndexOutOfBoundsException {
        Team asked = teamAt(team);
        reckonDemands();
        fillShares();
        return asked.filledShare;
    }

    public int due(int team) throws IndexOutOfBoundsException, UnsupportedOperationException {
        Team leaf = leafAt(team);
        reckonDues();
        return leaf.dueUnits;
    }

    public int freeFor(int team) throws IndexOutOfBoundsException, UnsupportedOperationException {
        Team leaf = leafAt(team);
        reckonHeldUnits();
        return freeUnits(leaf);
    }

    public long use(int team) throws IndexOutOfBoundsException, UnsupportedOperationException {
        return leafAt(team).pastUse;
    }

    public float usedShare() throws ArithmeticException {
        if (capacity == 0) {
            throw new ArithmeticException("the capacity is 0");
        }
        return (float) root.runs / (float) capacity;
    }

    public double meanStops() throws ArithmeticException {
        int ended = 0;
        int sum = 0;
        for (int i = 0; i < allJobs.size(); i++) {
            Job job = allJobs.get(i);
            if (job.state == ENDED) {
                ended++;
                sum += job.timesStopped;
            }
        }
        if (ended == 0) {
            throw new ArithmeticException("no job has ended");
        }
        return (double) sum / (double) ended;
    }

    public boolean isFair() {
        reckonDues();
        fillShares();
        return root.runs <= capacity && sharesAreFair() && !someFirstJobCanBeServed();
    }

    // ---- What the calls are refused for

    private Team teamAt(int team) {
        if (team < 0 || team >= allTeams.size()) {
            throw new IndexOutOfBoundsException("no such team");
        }
        return allTeams.get(team);
    }

    private Team teamBelowRoot(int team) {
        Team found = teamAt(team);
        if (found == root) {
            throw new UnsupportedOperationException("the team is the root");
        }
        return found;
    }

    private Team leafAt(int team) {
        Team found = teamAt(team);
        requireLeaf(found);
        return found;
    }

    private static void requireLeaf(Team team) {
        if (!team.isLeaf()) {
            throw new UnsupportedOperationException("the team has children");
        }
    }

    private static void requireRange(int number, int least, int most) {
        if (number < least || number > most) {
            throw new IllegalArgumentException("a number is out of range");
        }
    }

    private Job jobAt(int job) {
        if (job < 0 || job >= allJobs.size()) {
            throw new NoSuchElementException("no such job");
        }
        return allJobs.get(job);
    }

    private Job aliveJobAt(int job) {
        Job found = jobAt(job);
        if (!found.isAlive()) {
            throw new IllegalStateException("the job neither waits nor runs");
        }
        return found;
    }

    // ---- Ticks

    /** Lets each running job have one tick less to go; returns the number of those that end. */
    private int endJobs() {
        int ended = 0;
        for (int i = 0; i < aliveJobs.size(); i++) {
            Job job = aliveJobs.get(i);
            if (job.state == RUNS) {
                job.ticksToGo--;
                if (job.ticksToGo <= 0) {
                    job.giveUnitsBack();
                    job.state = ENDED;
                    ended++;
                }
            }
        }
        forgetDeadJobs();
        return ended;
    }

    private void changeUse() {
        boolean halves = halfTime > 0 && now % halfTime == 0;
        for (int i = 0; i < allTeams.size(); i++) {
            Team team = allTeams.get(i);
            if (team.isLeaf()) {
                team.pastUse += team.runs;
                if (halves) {
                    team.pastUse /= 2;
                }
            }
        }
    }

    private void forgetDeadJobs() {
        for (int i = aliveJobs.size() - 1; i >= 0; i--) {
            if (!aliveJobs.get(i).isAlive()) {
                aliveJobs.remove(i);
            }
        }
    }

    // ---- The line and its serving

    /**
     * Starts all that can start or reclaim. What starts within its leaf's due is not stopped again
     * in the same serving: dues stay as they are in it, and what its leaf started later is stopped
     * earlier. So each of the 40 jobs reclaims at most once, and between two reclaims at most 40
     * jobs start.
     */
    private void serve() {
        reckonDues();
        boolean served = true;
        for (int round = 0; served && round < MOST_ROUNDS; round++) {
            served = serveNext();
        }
    }

    private boolean serveNext() {
        formLine();
        for (int rank = 0; rank < line.size(); rank++) {
            Job first = line.get(rank);
            if (canStartOrReclaim(first)) {
                stopVictims();
                start(first);
                return true;
            }
        }
        return false;
    }

    private void stopVictims() {
        for (int i = 0; i < victims.size(); i++) {
            Job victim = victims.get(i);
            victim.giveUnitsBack();
            victim.timesStopped++;
        }
    }

    private void start(Job job) {
        job.takeUnits();
        job.ticksToGo = job.ticks;
        startsSoFar++;
        job.startedAs = startsSoFar;
    }

    private void formLine() {
        line.clear();
        for (int i = 0; i < allTeams.size(); i++) {
            Job first = firstJob(allTeams.get(i));
            if (first != null) {
                line.add(placeInLine(first.leaf), first);
            }
        }
    }

    /** Behind all that have used as little: those stand there already because their numbers are lower. */
    private int placeInLine(Team leaf) {
        int place = 0;
        while (place < line.size() && !leaf.usedLessThan(line.get(place).leaf)) {
            place++;
        }
        return place;
    }

    /** Returns null if no job of the team waits. */
    private Job firstJob(Team team) {
        for (int i = 0; i < aliveJobs.size(); i++) {
            Job job = aliveJobs.get(i);
            if (job.leaf == team && job.state == WAITS) {
                return job;
            }
        }
        return null;
    }

    /** Needs reckonDues; leaves the jobs that must be stopped for it, if it can, as the victims. */
    private boolean canStartOrReclaim(Job job) {
        victims.clear();
        if (!job.leaf.limitsAllow(job.size)) {
            return false;
        }
        if (job.size <= freeUnits(job.leaf)) {
            return true;
        }
        return job.leaf.runs + job.size <= job.leaf.dueUnits && findVictims(job);
    }

    /** Stops jobs on trial, since what they free depends on what is reserved and not run, and lets them run on. */
    private boolean findVictims(Job job) {
        for (int found = 0; found < MOST_ALIVE_JOBS && job.size > freeUnits(job.leaf); found++) {
            Job victim = youngestBorrower(job.leaf);
            if (victim == null) {
                break;
            }
            victim.giveUnitsBack();
            victims.add(victim);
        }
        boolean enough = job.size <= freeUnits(job.leaf);
        for (int i = 0; i < victims.size(); i++) {
            victims.get(i).takeUnits();
        }
        return enough;
    }

    /** Returns null if no leaf but the one that reclaims runs more than its due. */
    private Job youngestBorrower(Team reclaiming) {
        Job youngest = null;
        for (int i = 0; i < aliveJobs.size(); i++) {
            Job job = aliveJobs.get(i);
            if (job.state == RUNS && job.leaf != reclaiming && job.leaf.runs > job.leaf.dueUnits) {
                if (youngest == null || job.startedAs > youngest.startedAs) {
                    youngest = job;
                }
            }
        }
        return youngest;
    }

    /** Needs reckonHeldUnits. */
    private int freeUnits(Team leaf) {
        int free = capacity - root.runs;
        for (int i = 0; i < allTeams.size(); i++) {
            Team other = allTeams.get(i);
            if (other != leaf && other.heldUnits > other.runs) {
                free -= other.heldUnits - other.runs;
            }
        }
        return free;
    }

    // ---- What is reserved

    /** Returns null if there is none. */
    private Reservation reservationFor(int team, int from, int to) {
        for (int i = 0; i < allReservations.size(); i++) {
            Reservation reservation = allReservations.get(i);
            if (reservation.leaf.number == team && reservation.from == from && reservation.to == to) {
                return reservation;
            }
        }
        return null;
    }

    private void forgetReservation(Reservation forgotten) {
        for (int i = allReservations.size() - 1; i >= 0; i--) {
            if (allReservations.get(i) == forgotten) {
                allReservations.remove(i);
            }
        }
    }

    private void reckonHeldUnits() {
        for (int i = 0; i < allTeams.size(); i++) {
            allTeams.get(i).heldUnits = 0;
        }
        for (int i = 0; i < allReservations.size(); i++) {
            Reservation reservation = allReservations.get(i);
            if (reservation.from <= now && now < reservation.to) {
                reservation.leaf.heldUnits += reservation.units;
            }
        }
    }

    // ---- What the teams demand and are given

    private void reckonDues() {
        reckonDemands();
        dealShares();
        reckonHeldUnits();
        for (int i = 0; i < allTeams.size(); i++) {
            Team team = allTeams.get(i);
            team.dueUnits = Math.max(team.share, team.heldUnits);
        }
    }

    private void reckonDemands() {
        for (int i = 0; i < allTeams.size(); i++) {
            allTeams.get(i).demand = 0;
        }
        for (int i = 0; i < aliveJobs.size(); i++) {
            Job job = aliveJobs.get(i);
            job.leaf.demand += job.size;
        }
        // From the last team to the first one, so that children are ready before their parents.
        for (int i = allTeams.size() - 1; i >= 0; i--) {
            allTeams.get(i).settleDemand();
        }
    }

    private void dealShares() {
        root.share = rootShare();
        for (int i = 0; i < allTeams.size(); i++) {
            allTeams.get(i).dealToChildren();
        }
    }

    private void fillShares() {
        root.filledShare = rootShare();
        for (int i = 0; i < allTeams.size(); i++) {
            allTeams.get(i).fillChildren();
        }
    }

    private int rootShare() {
        return Math.min(capacity, root.demand);
    }

    // ---- What is fair

    private boolean sharesAreFair() {
        for (int i = 0; i < allTeams.size(); i++) {
            Team team = allTeams.get(i);
            if (team.share != team.filledShare || team.sharesOfChildren() > team.share) {
                return false;
            }
        }
        return true;
    }

    private boolean someFirstJobCanBeServed() {
        formLine();
        for (int rank = 0; rank < line.size(); rank++) {
            if (canStartOrReclaim(line.get(rank))) {
                return true;
            }
        }
        return false;
    }

    /** A team, with what was reckoned for it last: those fields are reckoned anew before they are asked. */
    private static final class Team {
        /** The greatest power of 2 that is not above the greatest capacity. */
        private static final int HIGHEST_LEVEL_STEP = 128;

        final int number;
        /** Null for the root. */
        final Team parent;
        final ArrayList<Team> children = new ArrayList<>();
        int weight;
        int limit = MOST_LIMIT;
        /** Whether it has ever had jobs or reservations. */
        boolean wasClaimed = false;
        /** What its jobs, or those of all leaves below it, run. */
        int runs = 0;
        long pastUse = 0;

        int demand = 0;
        int share = 0;
        int filledShare = 0;
        /** What is reserved for it now. */
        int heldUnits = 0;
        int dueUnits = 0;
        /** What it has been given so far while its parent gives. */
        int given = 0;

        Team(int number, Team parent, int weight) {
            this.number = number;
            this.parent = parent;
            this.weight = weight;
        }

        boolean isLeaf() {
            return children.isEmpty();
        }

        boolean limitsAllow(int units) {
            Team team = this;
            while (team.parent != null) {
                if (team.runs + units > team.limit) {
                    return false;
                }
                team = team.parent;
            }
            return true;
        }

        void changeRuns(int units) {
            for (Team team = this; team != null; team = team.parent) {
                team.runs += units;
            }
        }

        /** Compares the quotients of use and weight without dividing. */
        boolean usedLessThan(Team other) {
            return pastUse * other.weight < other.pastUse * weight;
        }

        /** Keeps the sum of its demand within its limit, and adds the rest to its parent's. */
        void settleDemand() {
            if (parent != null) {
                demand = Math.min(demand, limit);
                parent.demand += demand;
            }
        }

        /** Gives its share unit by unit. */
        void dealToChildren() {
            for (int i = 0; i < children.size(); i++) {
                children.get(i).given = 0;
            }
            giveOneByOne(share);
            for (int i = 0; i < children.size(); i++) {
                Team child = children.get(i);
                child.share = child.given;
            }
        }

        /** Gives its share by filling levels, and what is left one by one. */
        void fillChildren() {
            int level = levelWithin(filledShare);
            for (int i = 0; i < children.size(); i++) {
                Team child = children.get(i);
                child.given = child.unitsAtLevel(level);
            }
            giveOneByOne(filledShare - childrenUnitsAtLevel(level));
            for (int i = 0; i < children.size(); i++) {
                Team child = children.get(i);
                child.filledShare = child.given;
            }
        }

        private void giveOneByOne(int units) {
            for (int unit = 0; unit < units; unit++) {
                Team neediest = neediestChild();
                if (neediest != null) {
                    neediest.given++;
                }
            }
        }

        /** Returns null if all children have been given their demand. */
        private Team neediestChild() {
            Team neediest = null;
            for (int i = 0; i < children.size(); i++) {
                Team child = children.get(i);
                if (child.given < child.demand) {
                    if (neediest == null || child.given * neediest.weight < neediest.given * child.weight) {
                        neediest = child;
                    }
                }
            }
            return neediest;
        }

        /** Returns the greatest level up to which all children can be filled with these units, bit by bit. */
        private int levelWithin(int units) {
            int level = 0;
            for (int step = HIGHEST_LEVEL_STEP; step > 0; step /= 2) {
                if (childrenUnitsAtLevel(level + step) <= units) {
                    level += step;
                }
            }
            return level;
        }

        private int childrenUnitsAtLevel(int level) {
            int sum = 0;
            for (int i = 0; i < children.size(); i++) {
                sum += children.get(i).unitsAtLevel(level);
            }
            return sum;
        }

        private int unitsAtLevel(int level) {
            return Math.min(demand, level * weight);
        }

        int sharesOfChildren() {
            int sum = 0;
            for (int i = 0; i < children.size(); i++) {
                sum += children.get(i).share;
            }
            return sum;
        }
    }

    /** A gang that runs with all its units or not at all. */
    private static final class Job {
        final int number;
        final Team leaf;
        final int size;
        final int ticks;
        char state = WAITS;
        /** While it runs. */
        int ticksToGo = 0;
        int timesStopped = 0;
        /** How many starts there had been with its last one. */
        int startedAs = 0;

        Job(int number, Team leaf, int size, int ticks) {
            this.number = number;
            this.leaf = leaf;
            this.size = size;
            this.ticks = ticks;
        }

        boolean isAlive() {
            return state == WAITS || state == RUNS;
        }

        void takeUnits() {
            state = RUNS;
            leaf.changeRuns(size);
        }

        void giveUnitsBack() {
            state = WAITS;
            leaf.changeRuns(-size);
        }
    }

    /** Units that are reserved for a leaf from a tick up to, but not including, another one. */
    private static final class Reservation {
        final Team leaf;
        final int from;
        final int to;
        int units = 0;

        Reservation(Team leaf, int from, int to) {
            this.leaf = leaf;
            this.from = from;
            this.to = to;
        }
    }
}
