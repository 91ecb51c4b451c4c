import java.util.ArrayList;
import java.util.Comparator;
import java.util.List;
import java.util.NoSuchElementException;

/**
 * The document once more, as slowly and literally as it can be said: nothing is kept but what calls
 * tell, and every number is found anew from it. ModelTest compares the program with it.
 */
final class NaiveBroker {
    private static final class T {
        int parent;
        int weight;
        int limit = 500;
        long use = 0;
        boolean claimed = false;
    }

    private static final class J {
        int team;
        int size;
        int ticks;
        int toGo;
        char state = 'w';
        int stops = 0;
        long start = 0;
    }

    private static final class R {
        int team;
        int units;
        int from;
        int to;
    }

    private final List<T> teams = new ArrayList<>();
    private final List<J> jobs = new ArrayList<>();
    private final List<R> reservations = new ArrayList<>();
    private int capacity = 20;
    private int halfTime = 10;
    private int tick = 0;
    private long starts = 0;

    NaiveBroker() {
        T root = new T();
        root.parent = -1;
        root.weight = 1;
        teams.add(root);
    }

    // ---- the calls

    int addTeam(int parent, int weight) {
        team(parent);
        range(weight, 1, 9);
        if (teams.size() == 10 || teams.get(parent).claimed) throw new IllegalStateException();
        T t = new T();
        t.parent = parent;
        t.weight = weight;
        teams.add(t);
        serve();
        return teams.size() - 1;
    }

    int setWeight(int team, int weight) {
        notRoot(team);
        range(weight, 1, 9);
        int before = teams.get(team).weight;
        teams.get(team).weight = weight;
        serve();
        return before;
    }

    int setLimit(int team, int limit) {
        notRoot(team);
        range(limit, 0, 500);
        int before = teams.get(team).limit;
        teams.get(team).limit = limit;
        serve();
        return before;
    }

    int setCapacity(int units) {
        range(units, 0, 200);
        if (units < running(0)) throw new IllegalStateException();
        int before = capacity;
        capacity = units;
        serve();
        return before;
    }

    int setHalfTime(int ticks) {
        range(ticks, 1, 100);
        int before = halfTime;
        halfTime = ticks;
        serve();
        return before;
    }

    int teams() {
        return teams.size();
    }

    int parentOf(int team) {
        notRoot(team);
        return teams.get(team).parent;
    }

    int children(int team) {
        team(team);
        return childrenOf(team).size();
    }

    int submit(int team, int size, int ticks) {
        team(team);
        range(size, 1, 60);
        range(ticks, 1, 50);
        leaf(team);
        int alive = 0;
        for (J j : jobs) if (j.state == 'w' || j.state == 'r') alive++;
        if (alive == 40) throw new IllegalStateException();
        J j = new J();
        j.team = team;
        j.size = size;
        j.ticks = ticks;
        jobs.add(j);
        teams.get(team).claimed = true;
        serve();
        return jobs.size() - 1;
    }

    int cancel(int job) {
        J j = alive(job);
        int units = j.state == 'r' ? j.size : 0;
        j.state = 'c';
        serve();
        return units;
    }

    int pass(int ticks) {
        range(ticks, 1, 20);
        int ended = 0;
        for (int i = 0; i < ticks; i++) {
            tick++;
            for (J j : jobs) {
                if (j.state == 'r' && --j.toGo == 0) {
                    j.state = 'e';
                    ended++;
                }
            }
            for (int t = 0; t < teams.size(); t++) {
                if (childrenOf(t).isEmpty()) teams.get(t).use += running(t);
            }
            if (tick % halfTime == 0) for (T t : teams) t.use = t.use / 2;
            serve();
        }
        return ended;
    }

    int tick() {
        return tick;
    }

    int jobs() {
        return jobs.size();
    }

    char stateOf(int job) {
        return job(job).state;
    }

    int toGo(int job) {
        J j = alive(job);
        return j.state == 'w' ? j.ticks : j.toGo;
    }

    int stops(int job) {
        return job(job).stops;
    }

    int firstOf(int team) {
        leaf(team);
        J j = first(team);
        if (j == null) throw new NoSuchElementException();
        return jobs.indexOf(j);
    }

    int inLine(int rank) {
        List<Integer> line = line();
        if (rank < 0 || rank >= line.size()) throw new NoSuchElementException();
        return line.get(rank);
    }

    int reserve(int team, int units, int from, int to) {
        team(team);
        range(units, 1, 60);
        range(from, 0, 9999);
        range(to, 0, 9999);
        if (to <= from) throw new IllegalArgumentException();
        R r = find(team, from, to);
        if (r != null && r.units + units > 200) throw new IllegalArgumentException();
        leaf(team);
        if (r == null) {
            if (reservations.size() == 8) throw new IllegalStateException();
            r = new R();
            r.team = team;
            r.from = from;
            r.to = to;
            reservations.add(r);
        }
        r.units += units;
        teams.get(team).claimed = true;
        serve();
        return r.units;
    }

    int drop(int team, int from, int to) {
        R r = find(team, from, to);
        if (r == null) throw new NoSuchElementException();
        reservations.remove(r);
        serve();
        return r.units;
    }

    int reserved(int team) {
        leaf(team);
        int sum = 0;
        for (R r : reservations) if (r.team == team && tick >= r.from && tick < r.to) sum += r.units;
        return sum;
    }

    int running(int team) {
        team(team);
        int sum = 0;
        for (J j : jobs) if (j.state == 'r' && below(j.team, team)) sum += j.size;
        return sum;
    }

    int demand(int team) {
        team(team);
        int sum = 0;
        for (J j : jobs) if (j.team == team && (j.state == 'r' || j.state == 'w')) sum += j.size;
        for (int child : childrenOf(team)) sum += demand(child);
        return team == 0 ? sum : Math.min(sum, teams.get(team).limit);
    }

    /** Lists what each child could be given, unit by unit, in the order in which the units are due. */
    int share(int team) {
        team(team);
        if (team == 0) return Math.min(capacity, demand(0));
        int parent = teams.get(team).parent;
        List<int[]> units = new ArrayList<>();
        for (int child : childrenOf(parent)) {
            int wanted = demand(child);
            for (int k = 0; k < wanted; k++) units.add(new int[] {k, teams.get(child).weight, child});
        }
        // 2520 is divided by each weight, so that the quotients are compared exactly.
        units.sort(Comparator.<int[]>comparingInt(u -> u[0] * (2520 / u[1])).thenComparing(u -> u[2]));
        int given = 0;
        int all = share(parent);
        for (int i = 0; i < all && i < units.size(); i++) if (units.get(i)[2] == team) given++;
        return given;
    }

    int shareByLevels(int team) {
        return share(team);
    }

    int due(int team) {
        leaf(team);
        return Math.max(share(team), reserved(team));
    }

    int freeFor(int team) {
        leaf(team);
        int free = capacity - running(0);
        for (int t = 0; t < teams.size(); t++) {
            if (t != team && childrenOf(t).isEmpty()) free -= Math.max(0, reserved(t) - running(t));
        }
        return free;
    }

    long use(int team) {
        leaf(team);
        return teams.get(team).use;
    }

    float usedShare() {
        if (capacity == 0) throw new ArithmeticException();
        return (float) running(0) / (float) capacity;
    }

    double meanStops() {
        double sum = 0;
        double number = 0;
        for (J j : jobs) {
            if (j.state == 'e') {
                sum += j.stops;
                number++;
            }
        }
        if (number == 0) throw new ArithmeticException();
        return sum / number;
    }

    boolean isFair() {
        int[] dues = dues();
        for (int t : line()) if (victims(first(t), dues) != null) return false;
        return true;
    }

    // ---- serving

    private void serve() {
        int[] dues = dues();
        boolean again = true;
        while (again) {
            again = false;
            for (int t : line()) {
                J j = first(t);
                List<J> victims = victims(j, dues);
                if (victims != null) {
                    for (J v : victims) {
                        v.state = 'w';
                        v.stops++;
                    }
                    j.state = 'r';
                    j.toGo = j.ticks;
                    j.start = ++starts;
                    again = true;
                    break;
                }
            }
        }
    }

    /** The jobs that must be stopped for it, none if it can just start, null if it can't start or reclaim. */
    private List<J> victims(J j, int[] dues) {
        for (int t = j.team; t != 0; t = teams.get(t).parent) {
            if (running(t) + j.size > teams.get(t).limit) return null;
        }
        List<J> stopped = new ArrayList<>();
        if (j.size <= freeFor(j.team)) return stopped;
        if (running(j.team) + j.size > dues[j.team]) return null;
        boolean enough = false;
        while (!enough) {
            J last = null;
            for (J v : jobs) {
                if (v.state == 'r' && v.team != j.team && running(v.team) > dues[v.team]
                        && (last == null || v.start > last.start)) {
                    last = v;
                }
            }
            if (last == null) break;
            last.state = 'w';
            stopped.add(last);
            enough = j.size <= freeFor(j.team);
        }
        for (J v : stopped) v.state = 'r';
        return enough ? stopped : null;
    }

    private int[] dues() {
        int[] dues = new int[teams.size()];
        for (int t = 0; t < dues.length; t++) if (childrenOf(t).isEmpty()) dues[t] = due(t);
        return dues;
    }

    private J first(int team) {
        for (J j : jobs) if (j.team == team && j.state == 'w') return j;
        return null;
    }

    private List<Integer> line() {
        List<Integer> line = new ArrayList<>();
        for (int t = 0; t < teams.size(); t++) if (first(t) != null) line.add(t);
        line.sort(Comparator.<Integer>comparingLong(t -> teams.get(t).use * (2520 / teams.get(t).weight))
                .thenComparing(t -> t));
        return line;
    }

    // ---- finding and refusing

    private List<Integer> childrenOf(int team) {
        List<Integer> found = new ArrayList<>();
        for (int t = 1; t < teams.size(); t++) if (teams.get(t).parent == team) found.add(t);
        return found;
    }

    private boolean below(int team, int above) {
        for (int t = team; t >= 0; t = teams.get(t).parent) if (t == above) return true;
        return false;
    }

    private R find(int team, int from, int to) {
        for (R r : reservations) if (r.team == team && r.from == from && r.to == to) return r;
        return null;
    }

    private void team(int team) {
        if (team < 0 || team >= teams.size()) throw new IndexOutOfBoundsException();
    }

    private void notRoot(int team) {
        team(team);
        if (team == 0) throw new UnsupportedOperationException();
    }

    private void leaf(int team) {
        team(team);
        if (!childrenOf(team).isEmpty()) throw new UnsupportedOperationException();
    }

    private static void range(int number, int least, int most) {
        if (number < least || number > most) throw new IllegalArgumentException();
    }

    private J job(int job) {
        if (job < 0 || job >= jobs.size()) throw new NoSuchElementException();
        return jobs.get(job);
    }

    private J alive(int job) {
        J j = job(job);
        if (j.state != 'w' && j.state != 'r') throw new IllegalStateException();
        return j;
    }
}
