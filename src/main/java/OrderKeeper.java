import java.util.Arrays;

/**
 * Tasks that must come before others, kept in an order that is mended with each new tie.
 */
public final class OrderKeeper {
    /** There is none, or nothing is done. */
    public static final int NONE = -1;
    /** It would make a ring. */
    public static final int RING = -2;

    private static final int MOST_TASKS = 60;
    private static final int MOST_TIES = 400;
    private static final int MOST_WAITING = 100;
    private static final int MOST_REMEMBERED = 64;
    private static final int MOST_WEIGHT = 1000;
    private static final int MOST_WORKERS = 8;
    // More ties than any way can have.
    private static final int FAR = 1000;

    private final Net net;
    private final Mender mender;
    private final Bundle bundle;
    private final Past past;
    private final Ring ring;
    private final Times times;
    private final Schedule schedule;
    private int moved;

    /** No tasks. */
    public OrderKeeper() {
        net = new Net();
        mender = new Mender();
        bundle = new Bundle();
        past = new Past();
        ring = new Ring();
        times = new Times();
        schedule = new Schedule();
        moved = 0;
    }

    /** One more task: its number, or NONE. */
    public int task(int weight) {
        if (!isWeight(weight) || net.tasks >= MOST_TASKS) {
            return NONE;
        }
        past.forget();
        return net.addTask(weight);
    }

    /** Another weight for a task: 1, or 0 when nothing is done. */
    public int weigh(int x, int weight) {
        if (!net.isTask(x) || !isWeight(weight)) {
            return 0;
        }
        past.hold(net);
        net.weight[x] = weight;
        past.keep();
        return 1;
    }

    /** A tie from x to y: 1, 0 when it is there, RING or NONE. */
    public int tie(int x, int y) {
        if (!net.areTasks(x, y)) {
            return NONE;
        }
        past.hold(net);
        int answer = bring(x, y);
        settle(answer);
        return answer;
    }

    /** No tie from x to y any more: 1, or 0 when there was none. */
    public int untie(int x, int y) {
        if (!net.areTasks(x, y) || !net.hasTie(x, y)) {
            return 0;
        }
        past.hold(net);
        net.dropTie(x, y);
        past.keep();
        return 1;
    }

    /** One more tie in the bundle: how many, or NONE. */
    public int gather(int x, int y) {
        if (!net.areTasks(x, y) || bundle.size >= MOST_WAITING) {
            return NONE;
        }
        return bundle.add(x, y);
    }

    /** All ties of the bundle, or none of them: how many came, RING or NONE. */
    public int commit() {
        past.hold(net);
        int answer = bringBundle();
        bundle.size = 0;
        if (answer < 0) {
            net.copyFrom(past.held);
        }
        settle(answer);
        return answer;
    }

    /** Takes back the latest doing: 1, or 0 when there is none. */
    public int undo() {
        return past.takeBack(net) ? 1 : 0;
    }

    /** The place of a task, or NONE. */
    public int place(int x) {
        return net.isTask(x) ? net.placeOf[x] : NONE;
    }

    /** The task at a place, or NONE. */
    public int at(int place) {
        // Places are numbered as tasks are, so the same bounds hold.
        return net.isTask(place) ? net.taskAt[place] : NONE;
    }

    /** How many there are of what is asked for, or NONE. */
    public int count(int what) {
        switch (what) {
            case 0:
                return net.tasks;
            case 1:
                return net.ties;
            case 2:
                return bundle.size;
            case 3:
                return past.remembered;
            case 4:
                return ring.length;
            case 5:
                return moved;
            case 6:
                return net.countSpareTies();
            case 7:
                times.measure(net);
                return times.all;
            default:
                return NONE;
        }
    }

    /** Whether x reaches y: 1, 0, or NONE. */
    public int reaches(int x, int y) {
        if (!net.areTasks(x, y)) {
            return NONE;
        }
        return net.leadsTo(x, y) ? 1 : 0;
    }

    /** Whether there is a tie (1), one that is not needed (2), or none (0); or NONE. */
    public int tied(int x, int y) {
        if (!net.areTasks(x, y)) {
            return NONE;
        }
        if (!net.hasTie(x, y)) {
            return 0;
        }
        return net.isSpareTie(x, y) ? 2 : 1;
    }

    /** Task k of the latest witness, or NONE. */
    public int witness(int k) {
        return k >= 0 && k < ring.length ? ring.row[k] : NONE;
    }

    /** Early, late, tail, weight or being critical of a task, or NONE. */
    public int time(int x, int what) {
        if (!net.isTask(x)) {
            return NONE;
        }
        times.measure(net);
        switch (what) {
            case 0:
                return times.early[x];
            case 1:
                return times.lateOf(x);
            case 2:
                return times.tail[x];
            case 3:
                return net.weight[x];
            case 4:
                return times.isCritical(x) ? 1 : 0;
            default:
                return NONE;
        }
    }

    /** Task k of the critical row, or NONE. */
    public int critical(int k) {
        if (!net.isTask(k)) {
            // The row has no task twice, so it is never longer than there are tasks.
            return NONE;
        }
        times.measure(net);
        int t = times.firstCritical(net);
        for (int i = 0; i < k && t != NONE; i++) {
            t = times.nextCritical(net, t);
        }
        return t;
    }

    /** Plans for so many workers: when all are done, or NONE. */
    public int plan(int workers) {
        if (workers < 1 || workers > MOST_WORKERS) {
            return NONE;
        }
        times.measure(net);
        return schedule.make(net, times.tail, workers);
    }

    /** When a task of the latest plan begins, or which worker has it, or NONE. */
    public int planned(int x, int what) {
        if (x < 0 || x >= schedule.tasks) {
            return NONE;
        }
        switch (what) {
            case 0:
                return schedule.begin[x];
            case 1:
                return schedule.worker[x];
            default:
                return NONE;
        }
    }

    /** Whether the order is sound: 1; it would tell 0. */
    public int check() {
        return net.placesAreSound() && net.tiesLeadOn() ? 1 : 0;
    }

    private static boolean isWeight(int weight) {
        return weight >= 0 && weight <= MOST_WEIGHT;
    }

    private static long bit(int t) {
        return 1L << t;
    }

    private static boolean has(long set, int t) {
        return (set >>> t & 1L) != 0;
    }

    /** Ties alone and ties of a bundle come by this one door, so they are judged alike. */
    private int bring(int x, int y) {
        if (net.hasTie(x, y)) {
            return 0;
        }
        if (net.leadsTo(y, x)) {
            ring.find(net, y, x);
            return RING;
        }
        if (net.ties >= MOST_TIES) {
            return NONE;
        }
        mender.mend(net, x, y);
        net.putTie(x, y);
        return 1;
    }

    private int bringBundle() {
        int came = 0;
        for (int i = 0; i < bundle.size; i++) {
            int answer = bring(bundle.from[i], bundle.to[i]);
            if (answer < 0) {
                return answer;
            }
            came += answer;
        }
        return came;
    }

    /** What a tie or a commit leaves behind it, beside the net; the net before it is held. */
    private void settle(int answer) {
        if (answer == NONE) {
            return;
        }
        moved = net.countMovedSince(past.held);
        if (answer > 0) {
            past.keep();
        }
    }

    /**
     * Tasks, ties and the order. All that undo() brings back stands here, so that a copy of it
     * is the way back. Sets of tasks are bits of a long, for there are fewer than 64 tasks.
     */
    private static final class Net {
        final int[] weight = new int[MOST_TASKS];
        final long[] after = new long[MOST_TASKS];
        final long[] before = new long[MOST_TASKS];
        final int[] placeOf = new int[MOST_TASKS];
        final int[] taskAt = new int[MOST_TASKS];
        int tasks;
        int ties;

        void copyFrom(Net other) {
            System.arraycopy(other.weight, 0, weight, 0, MOST_TASKS);
            System.arraycopy(other.after, 0, after, 0, MOST_TASKS);
            System.arraycopy(other.before, 0, before, 0, MOST_TASKS);
            System.arraycopy(other.placeOf, 0, placeOf, 0, MOST_TASKS);
            System.arraycopy(other.taskAt, 0, taskAt, 0, MOST_TASKS);
            tasks = other.tasks;
            ties = other.ties;
        }

        boolean isTask(int x) {
            return x >= 0 && x < tasks;
        }

        boolean areTasks(int x, int y) {
            return isTask(x) && isTask(y);
        }

        int addTask(int itsWeight) {
            int t = tasks;
            weight[t] = itsWeight;
            placeOf[t] = t;
            taskAt[t] = t;
            tasks++;
            return t;
        }

        boolean hasTie(int x, int y) {
            return has(after[x], y);
        }

        void putTie(int x, int y) {
            after[x] |= bit(y);
            before[y] |= bit(x);
            ties++;
        }

        void dropTie(int x, int y) {
            after[x] &= ~bit(y);
            before[y] &= ~bit(x);
            ties--;
        }

        /**
         * The set, and all at the places from first to last that it reaches. All ties lead to
         * greater places, so one look at each of these places in turn is enough.
         */
        long spread(long set, int first, int last) {
            long found = set;
            for (int p = first; p <= last; p++) {
                int t = taskAt[p];
                if ((before[t] & found) != 0) {
                    found |= bit(t);
                }
            }
            return found;
        }

        long reachedFrom(int x, int last) {
            return spread(bit(x), placeOf[x] + 1, last);
        }

        long reaching(int x, int first) {
            long found = bit(x);
            for (int p = placeOf[x] - 1; p >= first; p--) {
                int t = taskAt[p];
                if ((after[t] & found) != 0) {
                    found |= bit(t);
                }
            }
            return found;
        }

        boolean leadsTo(int x, int y) {
            return has(reachedFrom(x, placeOf[y]), y);
        }

        boolean isSpareTie(int x, int y) {
            long others = after[x] & ~bit(y);
            return has(spread(others, placeOf[x] + 1, placeOf[y]), y);
        }

        int countSpareTies() {
            int sum = 0;
            for (int x = 0; x < tasks; x++) {
                for (int y = 0; y < tasks; y++) {
                    if (hasTie(x, y) && isSpareTie(x, y)) {
                        sum++;
                    }
                }
            }
            return sum;
        }

        int countMovedSince(Net earlier) {
            int sum = 0;
            for (int t = 0; t < tasks; t++) {
                if (placeOf[t] != earlier.placeOf[t]) {
                    sum++;
                }
            }
            return sum;
        }

        boolean placesAreSound() {
            for (int t = 0; t < tasks; t++) {
                if (!isTask(placeOf[t]) || taskAt[placeOf[t]] != t) {
                    return false;
                }
            }
            return true;
        }

        boolean tiesLeadOn() {
            for (int x = 0; x < tasks; x++) {
                for (int y = 0; y < tasks; y++) {
                    if (hasTie(x, y) && placeOf[x] >= placeOf[y]) {
                        return false;
                    }
                }
            }
            return true;
        }
    }

    /** Mends the order for a tie that is to come and makes no ring. */
    private static final class Mender {
        private final int[] row = new int[MOST_TASKS];
        private int length;

        void mend(Net net, int x, int y) {
            int first = net.placeOf[y];
            int last = net.placeOf[x];
            if (first > last) {
                return;
            }
            long ahead = net.reaching(x, first);
            long behind = net.reachedFrom(y, last);
            length = 0;
            line(net, ahead, first, last);
            line(net, behind, first, last);
            deal(net, ahead | behind, first, last);
        }

        private void line(Net net, long set, int first, int last) {
            for (int p = first; p <= last; p++) {
                if (has(set, net.taskAt[p])) {
                    row[length] = net.taskAt[p];
                    length++;
                }
            }
        }

        /** The places that the set has, the least first, go to the row's tasks in turn. */
        private void deal(Net net, long set, int first, int last) {
            int next = 0;
            for (int p = first; p <= last && next < length; p++) {
                if (has(set, net.taskAt[p])) {
                    int t = row[next];
                    net.taskAt[p] = t;
                    net.placeOf[t] = p;
                    next++;
                }
            }
        }
    }

    /** The latest witness. */
    private static final class Ring {
        final int[] row = new int[MOST_TASKS];
        int length;
        private final int[] away = new int[MOST_TASKS];

        /** There must be a way from y to x. */
        void find(Net net, int y, int x) {
            measure(net, y, x);
            int t = y;
            int steps = Math.min(away[y], MOST_TASKS - 1);
            length = 0;
            for (int i = 0; i <= steps && t != NONE; i++) {
                row[length] = t;
                length++;
                t = nearer(net, t);
            }
        }

        /** How many ties each task is away from x; no way from y to x leaves the places between. */
        private void measure(Net net, int y, int x) {
            Arrays.fill(away, FAR);
            away[x] = 0;
            for (int p = net.placeOf[x] - 1; p >= net.placeOf[y]; p--) {
                int t = net.taskAt[p];
                for (int z = 0; z < net.tasks; z++) {
                    if (net.hasTie(t, z)) {
                        away[t] = Math.min(away[t], away[z] + 1);
                    }
                }
            }
        }

        private int nearer(Net net, int t) {
            for (int z = 0; z < net.tasks; z++) {
                if (net.hasTie(t, z) && away[z] == away[t] - 1) {
                    return z;
                }
            }
            return NONE;
        }
    }

    /** Ties that wait. */
    private static final class Bundle {
        final int[] from = new int[MOST_WAITING];
        final int[] to = new int[MOST_WAITING];
        int size;

        int add(int x, int y) {
            from[size] = x;
            to[size] = y;
            size++;
            return size;
        }
    }

    /**
     * The nets as they were before the latest doings. A net is made only when a doing first needs
     * it, and used again, so that an object which does little stays small.
     */
    private static final class Past {
        Net held = new Net();
        int remembered;
        private final Net[] kept = new Net[MOST_REMEMBERED];
        private int next;

        /** Before a doing: it is not known yet whether it will be one to take back. */
        void hold(Net net) {
            held.copyFrom(net);
        }

        /** The doing was one: what is held goes where the oldest stands, if all are in use. */
        void keep() {
            Net old = kept[next];
            kept[next] = held;
            held = old == null ? new Net() : old;
            next = (next + 1) % MOST_REMEMBERED;
            remembered = Math.min(remembered + 1, MOST_REMEMBERED);
        }

        boolean takeBack(Net net) {
            if (remembered == 0) {
                return false;
            }
            next = (next + MOST_REMEMBERED - 1) % MOST_REMEMBERED;
            remembered--;
            Net last = kept[next];
            if (last == null) {
                return false;
            }
            net.copyFrom(last);
            return true;
        }

        void forget() {
            remembered = 0;
        }
    }

    /** Early and late times; to be measured anew before each use, as any doing may change them. */
    private static final class Times {
        final int[] early = new int[MOST_TASKS];
        final int[] tail = new int[MOST_TASKS];
        int all;

        void measure(Net net) {
            measureEarly(net);
            measureTail(net);
        }

        private void measureEarly(Net net) {
            all = 0;
            for (int p = 0; p < net.tasks; p++) {
                int t = net.taskAt[p];
                early[t] = 0;
                for (int z = 0; z < net.tasks; z++) {
                    if (net.hasTie(z, t)) {
                        early[t] = Math.max(early[t], early[z] + net.weight[z]);
                    }
                }
                all = Math.max(all, early[t] + net.weight[t]);
            }
        }

        private void measureTail(Net net) {
            for (int p = net.tasks - 1; p >= 0; p--) {
                int t = net.taskAt[p];
                int behind = 0;
                for (int z = 0; z < net.tasks; z++) {
                    if (net.hasTie(t, z)) {
                        behind = Math.max(behind, tail[z]);
                    }
                }
                tail[t] = behind + net.weight[t];
            }
        }

        int lateOf(int t) {
            return all - tail[t];
        }

        boolean isCritical(int t) {
            return early[t] == lateOf(t);
        }

        int firstCritical(Net net) {
            for (int t = 0; t < net.tasks; t++) {
                if (isCritical(t) && early[t] == 0) {
                    return t;
                }
            }
            return NONE;
        }

        int nextCritical(Net net, int t) {
            int end = early[t] + net.weight[t];
            for (int z = 0; z < net.tasks; z++) {
                if (net.hasTie(t, z) && isCritical(z) && early[z] == end) {
                    return z;
                }
            }
            return NONE;
        }
    }

    /** The latest plan. */
    private static final class Schedule {
        final int[] begin = new int[MOST_TASKS];
        final int[] worker = new int[MOST_TASKS];
        int tasks;
        private final int[] taskOf = new int[MOST_WORKERS];
        private final int[] endOf = new int[MOST_WORKERS];
        private long begun;
        private long done;

        int make(Net net, int[] tail, int workers) {
            tasks = net.tasks;
            begun = 0;
            done = 0;
            Arrays.fill(taskOf, NONE);
            int now = 0;
            // Each round but the first ends at least one task.
            for (int round = 0; round <= tasks; round++) {
                endTasks(now, workers);
                handOut(net, tail, workers, now);
                int next = nextEnd(workers);
                if (next == NONE) {
                    break;
                }
                now = next;
            }
            return now;
        }

        private void endTasks(int now, int workers) {
            for (int w = 0; w < workers; w++) {
                if (taskOf[w] != NONE && endOf[w] == now) {
                    done |= bit(taskOf[w]);
                    taskOf[w] = NONE;
                }
            }
        }

        private void handOut(Net net, int[] tail, int workers, int now) {
            for (int i = 0; i < tasks; i++) {
                int w = leastFree(workers);
                int t = firstReady(net, tail);
                if (w == NONE || t == NONE) {
                    return;
                }
                take(t, w, now, net.weight[t]);
            }
        }

        private void take(int t, int w, int now, int weight) {
            begin[t] = now;
            worker[t] = w;
            begun |= bit(t);
            if (weight == 0) {
                done |= bit(t);
            } else {
                taskOf[w] = t;
                endOf[w] = now + weight;
            }
        }

        private int leastFree(int workers) {
            for (int w = 0; w < workers; w++) {
                if (taskOf[w] == NONE) {
                    return w;
                }
            }
            return NONE;
        }

        private int firstReady(Net net, int[] tail) {
            int best = NONE;
            for (int t = 0; t < tasks; t++) {
                boolean ready = !has(begun, t) && (net.before[t] & ~done) == 0;
                if (ready && (best == NONE || tail[t] > tail[best])) {
                    best = t;
                }
            }
            return best;
        }

        private int nextEnd(int workers) {
            int next = NONE;
            for (int w = 0; w < workers; w++) {
                if (taskOf[w] != NONE && (next == NONE || endOf[w] < next)) {
                    next = endOf[w];
                }
            }
            return next;
        }
    }
}
