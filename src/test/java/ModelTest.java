import java.util.ArrayList;
import java.util.Collections;
import java.util.List;
import java.util.Random;

/**
 * All promises: runs of mixed calls, some of them wrong, each answer held against the plain model's.
 * The seeds are fixed, so each time the same calls come.
 */
public final class ModelTest {
    private static final int MOST_CALLS = 512;
    private static final Dues D = new Dues("ModelTest");
    private static final int[] WILD = {
        Integer.MIN_VALUE, -1000, -64, -2, -1, 0, 1, 2, 3, 4, 5, 6, 8, 9, 59, 60, 63, 64, 65, 100, 1000, 1001,
        Integer.MAX_VALUE};

    private final OrderKeeper keeper = new OrderKeeper();
    private final PlainModel model = new PlainModel();
    private final Random random;
    private final String name;
    private int calls;

    private ModelTest(String name, long seed) {
        this.name = name + " " + seed;
        random = new Random(seed);
    }

    public static void main(String[] args) {
        for (int seed = 0; seed < 400; seed++) {
            new ModelTest("few tasks", seed).fewTasks();
        }
        for (int seed = 0; seed < 60; seed++) {
            new ModelTest("many tasks", seed).manyTasks();
        }
        for (int seed = 0; seed < 30; seed++) {
            new ModelTest("many ties", seed).manyTies();
        }
        for (int seed = 0; seed < 60; seed++) {
            new ModelTest("long past", seed).longPast();
        }
        for (int seed = 0; seed < 20; seed++) {
            new ModelTest("wild numbers", seed).wildNumbers();
        }
        D.end();
    }

    private void fewTasks() {
        int tasks = 2 + random.nextInt(8);
        int most = random.nextBoolean() ? 4 : 12;
        for (int t = 0; t < tasks; t++) {
            call(0, random.nextInt(most), 0);
        }
        while (calls < MOST_CALLS) {
            mixedCall(tasks, most);
        }
    }

    private void manyTasks() {
        int tasks = 30 + random.nextInt(31);
        for (int t = 0; t < tasks; t++) {
            call(0, random.nextInt(20), 0);
        }
        while (calls < MOST_CALLS) {
            mixedCall(tasks, 20);
        }
    }

    /** All 435 ties that 30 tasks can have, mixed, alone and in bundles, until there is no room. */
    private void manyTies() {
        List<int[]> pairs = new ArrayList<>();
        for (int t = 0; t < 30; t++) {
            call(0, random.nextInt(5), 0);
            for (int other = 0; other < t; other++) {
                pairs.add(new int[] {other, t});
            }
        }
        List<Integer> ranks = new ArrayList<>();
        for (int t = 0; t < 30; t++) {
            ranks.add(t);
        }
        Collections.shuffle(ranks, random);
        Collections.shuffle(pairs, random);
        for (int[] pair : pairs) {
            boolean ring = model.count(1) > 390 && random.nextInt(8) == 0;
            int x = ranks.get(pair[ring ? 1 : 0]);
            int y = ranks.get(pair[ring ? 0 : 1]);
            call(random.nextInt(3) == 0 ? 4 : 2, x, y);
            if (random.nextInt(model.count(1) > 390 ? 6 : 40) == 0) {
                call(5, 0, 0);
                call(9, random.nextInt(8), 0);
            }
        }
        while (calls < MOST_CALLS) {
            call(9, random.nextInt(8), 0);
            call(7, random.nextInt(30), 0);
            call(12, random.nextInt(3), 0);
        }
    }

    /** More doings than are remembered, then back as far as it goes. */
    private void longPast() {
        for (int t = 0; t < 12; t++) {
            call(0, random.nextInt(5), 0);
        }
        for (int round = 0; round < 2; round++) {
            int doings = 50 + random.nextInt(60);
            for (int i = 0; i < doings; i++) {
                call(1 + random.nextInt(5), random.nextInt(12), random.nextInt(12));
            }
            int undos = 50 + random.nextInt(20);
            for (int i = 0; i < undos; i++) {
                call(6, 0, 0);
                call(7, random.nextInt(12), 0);
                call(9, random.nextInt(8), 0);
            }
        }
    }

    private void wildNumbers() {
        for (int t = 0; t < 4; t++) {
            call(0, random.nextInt(10), 0);
        }
        while (calls < MOST_CALLS) {
            // Not too many tasks, as the plain model is slow with great weights.
            int least = model.count(0) < 6 ? 0 : 1;
            call(least + random.nextInt(18 - least), WILD[random.nextInt(WILD.length)], WILD[random.nextInt(WILD.length)]);
        }
    }

    private void mixedCall(int tasks, int most) {
        int pick = random.nextInt(100);
        int x = random.nextInt(tasks + 2) - (random.nextInt(20) == 0 ? 1 : 0);
        int y = random.nextInt(tasks + 1);
        if (pick < 1) {
            call(0, random.nextInt(most + 2) - 1, 0);
        } else if (pick < 5) {
            call(1, x, random.nextInt(10) == 0 ? 1001 : random.nextInt(most));
        } else if (pick < 25) {
            call(2, x, y);
        } else if (pick < 31) {
            call(3, x, y);
        } else if (pick < 38) {
            call(4, x, y);
        } else if (pick < 41) {
            call(5, 0, 0);
        } else if (pick < 47) {
            call(6, 0, 0);
        } else if (pick < 70) {
            call(9, random.nextInt(9), 0);
            call(7 + random.nextInt(2), x, 0);
        } else if (pick < 78) {
            call(10 + random.nextInt(2), x, y);
        } else if (pick < 82) {
            call(12, random.nextInt(5), 0);
        } else if (pick < 89) {
            call(13, x, random.nextInt(6));
        } else if (pick < 93) {
            call(14, random.nextInt(5) - 1, 0);
        } else if (pick < 94) {
            call(15, random.nextInt(10), 0);
        } else if (pick < 99) {
            call(16, x, random.nextInt(3));
        } else {
            call(17, 0, 0);
        }
    }

    private void call(int which, int a, int b) {
        if (calls == MOST_CALLS) {
            return;
        }
        calls++;
        switch (which) {
            case 0: due("task(" + a + ")", keeper.task(a), model.task(a)); break;
            case 1: due("weigh(" + a + ", " + b + ")", keeper.weigh(a, b), model.weigh(a, b)); break;
            case 2: due("tie(" + a + ", " + b + ")", keeper.tie(a, b), model.tie(a, b)); break;
            case 3: due("untie(" + a + ", " + b + ")", keeper.untie(a, b), model.untie(a, b)); break;
            case 4: due("gather(" + a + ", " + b + ")", keeper.gather(a, b), model.gather(a, b)); break;
            case 5: due("commit()", keeper.commit(), model.commit()); break;
            case 6: due("undo()", keeper.undo(), model.undo()); break;
            case 7: due("place(" + a + ")", keeper.place(a), model.place(a)); break;
            case 8: due("at(" + a + ")", keeper.at(a), model.at(a)); break;
            case 9: due("count(" + a + ")", keeper.count(a), model.count(a)); break;
            case 10: due("reaches(" + a + ", " + b + ")", keeper.reaches(a, b), model.reaches(a, b)); break;
            case 11: due("tied(" + a + ", " + b + ")", keeper.tied(a, b), model.tied(a, b)); break;
            case 12: due("witness(" + a + ")", keeper.witness(a), model.witness(a)); break;
            case 13: due("time(" + a + ", " + b + ")", keeper.time(a, b), model.time(a, b)); break;
            case 14: due("critical(" + a + ")", keeper.critical(a), model.critical(a)); break;
            case 15: due("plan(" + a + ")", keeper.plan(a), model.plan(a)); break;
            case 16: due("planned(" + a + ", " + b + ")", keeper.planned(a, b), model.planned(a, b)); break;
            default: due("check()", keeper.check(), model.check()); break;
        }
    }

    private void due(String call, int got, int want) {
        D.due(name + ", call " + calls + ": " + call, got, want);
    }
}
