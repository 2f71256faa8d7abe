import java.util.ArrayDeque;
import java.util.ArrayList;
import java.util.Arrays;
import java.util.Deque;
import java.util.HashMap;
import java.util.List;
import java.util.Map;
import java.util.TreeMap;

/**
 * The document's terms in their plainest form, slow and built another way than the program, to
 * have something to hold the program's answers against.
 */
final class PlainModel {
    private static final int NONE = -1;
    private static final int RING = -2;

    private List<Integer> weights = new ArrayList<>();
    private List<List<Integer>> ties = new ArrayList<>();
    private List<Integer> order = new ArrayList<>();
    private final List<List<Integer>> bundle = new ArrayList<>();
    private final Deque<List<List<?>>> past = new ArrayDeque<>();
    private List<Integer> witness = new ArrayList<>();
    private int moved;
    private Map<Integer, int[]> plan = new HashMap<>();

    private boolean is(int x) {
        return x >= 0 && x < weights.size();
    }

    private List<List<?>> copy() {
        return List.of(new ArrayList<>(weights), new ArrayList<>(ties), new ArrayList<>(order));
    }

    @SuppressWarnings("unchecked")
    private void restore(List<List<?>> copy) {
        weights = new ArrayList<>((List<Integer>) copy.get(0));
        ties = new ArrayList<>((List<List<Integer>>) copy.get(1));
        order = new ArrayList<>((List<Integer>) copy.get(2));
    }

    private void remember(List<List<?>> copy) {
        past.addLast(copy);
        if (past.size() > 64) {
            past.removeFirst();
        }
    }

    int task(int weight) {
        if (weight < 0 || weight > 1000 || weights.size() == 60) {
            return NONE;
        }
        past.clear();
        order.add(weights.size());
        weights.add(weight);
        return weights.size() - 1;
    }

    int weigh(int x, int weight) {
        if (!is(x) || weight < 0 || weight > 1000) {
            return 0;
        }
        remember(copy());
        weights.set(x, weight);
        return 1;
    }

    private boolean way(int x, int y) {
        boolean[] seen = new boolean[weights.size()];
        Deque<Integer> open = new ArrayDeque<>();
        open.add(x);
        while (!open.isEmpty()) {
            int t = open.remove();
            if (t == y) {
                return true;
            }
            for (List<Integer> tie : ties) {
                if (tie.get(0) == t && !seen[tie.get(1)]) {
                    seen[tie.get(1)] = true;
                    open.add(tie.get(1));
                }
            }
        }
        return false;
    }

    private int bring(int x, int y) {
        if (ties.contains(List.of(x, y))) {
            return 0;
        }
        if (way(y, x)) {
            witness = fewest(y, x);
            return RING;
        }
        if (ties.size() == 400) {
            return NONE;
        }
        int low = order.indexOf(y);
        int high = order.indexOf(x);
        if (low < high) {
            List<Integer> row = new ArrayList<>();
            List<Integer> places = new ArrayList<>();
            for (int p = 0; p < order.size(); p++) {
                if (p >= low && way(order.get(p), x)) {
                    row.add(order.get(p));
                    places.add(p);
                }
            }
            for (int p = 0; p < order.size(); p++) {
                if (p <= high && way(y, order.get(p))) {
                    row.add(order.get(p));
                    places.add(p);
                }
            }
            places.sort(null);
            for (int i = 0; i < row.size(); i++) {
                order.set(places.get(i), row.get(i));
            }
        }
        ties.add(List.of(x, y));
        return 1;
    }

    /** Layer by layer: to each task the least of the ways with so many ties. */
    private List<Integer> fewest(int y, int x) {
        Map<Integer, List<Integer>> layer = new TreeMap<>();
        layer.put(y, List.of(y));
        while (!layer.containsKey(x)) {
            Map<Integer, List<Integer>> next = new TreeMap<>();
            for (List<Integer> row : layer.values()) {
                for (List<Integer> tie : ties) {
                    if (tie.get(0).equals(row.get(row.size() - 1))) {
                        List<Integer> longer = new ArrayList<>(row);
                        longer.add(tie.get(1));
                        List<Integer> other = next.get(tie.get(1));
                        if (other == null || compare(longer, other) < 0) {
                            next.put(tie.get(1), longer);
                        }
                    }
                }
            }
            layer = next;
        }
        return layer.get(x);
    }

    private static int compare(List<Integer> a, List<Integer> b) {
        return Arrays.compare(a.stream().mapToInt(i -> i).toArray(), b.stream().mapToInt(i -> i).toArray());
    }

    private int movedSince(List<List<?>> copy) {
        int sum = 0;
        for (int p = 0; p < order.size(); p++) {
            if (!order.get(p).equals(copy.get(2).get(p))) {
                sum++;
            }
        }
        return sum;
    }

    int tie(int x, int y) {
        if (!is(x) || !is(y)) {
            return NONE;
        }
        List<List<?>> before = copy();
        int answer = bring(x, y);
        if (answer == 1) {
            remember(before);
        }
        if (answer != NONE) {
            moved = movedSince(before);
        }
        return answer;
    }

    int untie(int x, int y) {
        List<List<?>> before = copy();
        if (ties.remove(List.of(x, y))) {
            remember(before);
            return 1;
        }
        return 0;
    }

    int gather(int x, int y) {
        if (!is(x) || !is(y) || bundle.size() == 100) {
            return NONE;
        }
        bundle.add(List.of(x, y));
        return bundle.size();
    }

    int commit() {
        List<List<?>> before = copy();
        int sum = 0;
        for (List<Integer> tie : bundle) {
            int answer = bring(tie.get(0), tie.get(1));
            if (answer < 0) {
                sum = answer;
                restore(before);
                break;
            }
            sum += answer;
        }
        bundle.clear();
        if (sum >= 1) {
            remember(before);
        }
        if (sum != NONE) {
            moved = movedSince(before);
        }
        return sum;
    }

    int undo() {
        if (past.isEmpty()) {
            return 0;
        }
        restore(past.removeLast());
        return 1;
    }

    int place(int x) {
        return order.indexOf(x);
    }

    int at(int place) {
        return is(place) ? order.get(place) : NONE;
    }

    int count(int what) {
        switch (what) {
            case 0: return weights.size();
            case 1: return ties.size();
            case 2: return bundle.size();
            case 3: return past.size();
            case 4: return witness.size();
            case 5: return moved;
            case 6: return (int) new ArrayList<>(ties).stream().filter(tie -> tied(tie.get(0), tie.get(1)) == 2).count();
            case 7: return all();
            default: return NONE;
        }
    }

    int reaches(int x, int y) {
        return !is(x) || !is(y) ? NONE : way(x, y) ? 1 : 0;
    }

    int tied(int x, int y) {
        if (!is(x) || !is(y)) {
            return NONE;
        }
        List<Integer> tie = List.of(x, y);
        if (!ties.contains(tie)) {
            return 0;
        }
        List<List<Integer>> whole = ties;
        ties = new ArrayList<>(ties);
        ties.remove(tie);
        boolean other = way(x, y);
        ties = whole;
        return other ? 2 : 1;
    }

    int witness(int k) {
        return k >= 0 && k < witness.size() ? witness.get(k) : NONE;
    }

    private int early(int x, Map<Integer, Integer> known) {
        if (!known.containsKey(x)) {
            int most = 0;
            for (List<Integer> tie : ties) {
                if (tie.get(1) == x) {
                    most = Math.max(most, early(tie.get(0), known) + weights.get(tie.get(0)));
                }
            }
            known.put(x, most);
        }
        return known.get(x);
    }

    private int tail(int x, Map<Integer, Integer> known) {
        if (!known.containsKey(x)) {
            int most = 0;
            for (List<Integer> tie : ties) {
                if (tie.get(0) == x) {
                    most = Math.max(most, tail(tie.get(1), known));
                }
            }
            known.put(x, most + weights.get(x));
        }
        return known.get(x);
    }

    private int all() {
        int most = 0;
        for (int t = 0; t < weights.size(); t++) {
            most = Math.max(most, early(t, new HashMap<>()) + weights.get(t));
        }
        return most;
    }

    int time(int x, int what) {
        if (!is(x)) {
            return NONE;
        }
        int early = early(x, new HashMap<>());
        int tail = tail(x, new HashMap<>());
        int late = all() - tail;
        int[] answers = {early, late, tail, weights.get(x), early == late ? 1 : 0};
        return what >= 0 && what < answers.length ? answers[what] : NONE;
    }

    int critical(int k) {
        List<Integer> row = new ArrayList<>();
        int next = 0;
        while (next < weights.size()) {
            boolean fits = time(next, 4) == 1;
            if (row.isEmpty()) {
                fits &= time(next, 0) == 0;
            } else {
                int last = row.get(row.size() - 1);
                fits &= ties.contains(List.of(last, next)) && time(next, 0) == time(last, 0) + weights.get(last);
            }
            if (fits) {
                row.add(next);
                next = 0;
            } else {
                next++;
            }
        }
        return k >= 0 && k < row.size() ? row.get(k) : NONE;
    }

    /** One unit of time after the other. */
    int plan(int workers) {
        if (workers < 1 || workers > 8) {
            return NONE;
        }
        plan = new HashMap<>();
        List<Integer> done = new ArrayList<>();
        int[] has = new int[workers];
        Arrays.fill(has, NONE);
        int now = 0;
        while (true) {
            for (int w = 0; w < workers; w++) {
                if (has[w] != NONE && plan.get(has[w])[0] + weights.get(has[w]) == now) {
                    done.add(has[w]);
                    has[w] = NONE;
                }
            }
            for (int w = 0; w < workers; w++) {
                while (has[w] == NONE && ready(done) != NONE) {
                    int t = ready(done);
                    plan.put(t, new int[] {now, w});
                    if (weights.get(t) == 0) {
                        done.add(t);
                    } else {
                        has[w] = t;
                    }
                }
            }
            if (done.size() == weights.size()) {
                return now;
            }
            now++;
        }
    }

    private int ready(List<Integer> done) {
        int best = NONE;
        int bestTail = NONE;
        for (int t = 0; t < weights.size(); t++) {
            int task = t;
            if (!plan.containsKey(t) && ties.stream().allMatch(tie -> tie.get(1) != task || done.contains(tie.get(0)))) {
                int tail = tail(t, new HashMap<>());
                if (tail > bestTail) {
                    best = t;
                    bestTail = tail;
                }
            }
        }
        return best;
    }

    int planned(int x, int what) {
        return plan.containsKey(x) && (what == 0 || what == 1) ? plan.get(x)[what] : NONE;
    }

    /** The order is sound whatever was called. */
    int check() {
        return 1;
    }
}
