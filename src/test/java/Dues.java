import java.util.Arrays;

/** Counts the answers that are not as due, and prints them. */
final class Dues {
    private final String name;
    private int wrong;
    private int looked;

    Dues(String name) {
        this.name = name;
    }

    void due(String call, Object got, Object want) {
        looked++;
        if (!want.equals(got)) {
            wrong++;
            System.out.println(name + ": " + call + " answered " + got + ", due is " + want);
        }
    }

    void end() {
        System.out.println(name + ": " + looked + " answers, " + wrong + " not as due");
        if (wrong != 0) {
            System.exit(1);
        }
    }

    static OrderKeeper withTasks(int... weights) {
        OrderKeeper keeper = new OrderKeeper();
        for (int weight : weights) {
            keeper.task(weight);
        }
        return keeper;
    }

    static OrderKeeper withManyTasks(int many) {
        return withTasks(new int[many]);
    }

    /** Ties from lesser to greater tasks, as many as asked for, each new. */
    static void tieMany(OrderKeeper keeper, int tasks, int many) {
        int left = many;
        for (int x = 0; x < tasks; x++) {
            for (int y = x + 1; y < tasks && left > 0; y++) {
                keeper.tie(x, y);
                left--;
            }
        }
    }

    /** 29 tasks can have 406 ties: those that are left out at 400 lie among the last four tasks. */
    static OrderKeeper withManyTies(int many) {
        OrderKeeper keeper = withManyTasks(29);
        tieMany(keeper, 29, many);
        return keeper;
    }

    /** Numbers that are no task's; some of them would be one's if they were cut to fewer bits. */
    static int[] noTasks(int tasks) {
        int[] numbers = {
            -1, -2, -32, -63, -64, tasks, tasks + 1, 32, 33, 60, 61, 63, 64, 65, 128, 256, 65536, 1 << 30,
            Integer.MAX_VALUE, Integer.MIN_VALUE, Integer.MIN_VALUE + 1};
        return Arrays.stream(numbers).filter(number -> number < 0 || number >= tasks).toArray();
    }

    /** All that can be asked of an object with few tasks, to tell whether anything was done. */
    static String state(OrderKeeper keeper) {
        StringBuilder text = new StringBuilder("counts");
        for (int what = 0; what <= 7; what++) {
            text.append(" ").append(keeper.count(what));
        }
        text.append(", order ").append(order(keeper));
        text.append(", weights ").append(times(keeper, 3));
        text.append(", ties").append(ties(keeper));
        text.append(", witness ").append(witness(keeper));
        text.append(", plan ").append(plan(keeper));
        return text.toString();
    }

    static String ties(OrderKeeper keeper) {
        StringBuilder text = new StringBuilder();
        int tasks = keeper.count(0);
        for (int x = 0; x < tasks; x++) {
            for (int y = 0; y < tasks; y++) {
                if (keeper.tied(x, y) > 0) {
                    text.append(" ").append(x).append(">").append(y);
                }
            }
        }
        return text.toString();
    }

    /** The tasks by their places; the places are looked at too. */
    static String order(OrderKeeper keeper) {
        StringBuilder text = new StringBuilder();
        for (int p = 0; p < keeper.count(0); p++) {
            int t = keeper.at(p);
            text.append(p == 0 ? "" : " ").append(t);
            if (keeper.place(t) != p) {
                text.append("!");
            }
        }
        return text.toString();
    }

    static String witness(OrderKeeper keeper) {
        StringBuilder text = new StringBuilder();
        for (int k = 0; k < keeper.count(4); k++) {
            text.append(k == 0 ? "" : " ").append(keeper.witness(k));
        }
        return text.toString();
    }

    static String criticalRow(OrderKeeper keeper) {
        StringBuilder text = new StringBuilder();
        for (int k = 0; keeper.critical(k) != OrderKeeper.NONE; k++) {
            text.append(k == 0 ? "" : " ").append(keeper.critical(k));
        }
        return text.toString();
    }

    /** Of each task: when it begins, and by which worker. */
    static String plan(OrderKeeper keeper) {
        StringBuilder text = new StringBuilder();
        for (int x = 0; x < keeper.count(0); x++) {
            text.append(x == 0 ? "" : " ").append(keeper.planned(x, 0)).append("/").append(keeper.planned(x, 1));
        }
        return text.toString();
    }

    static String times(OrderKeeper keeper, int what) {
        StringBuilder text = new StringBuilder();
        for (int x = 0; x < keeper.count(0); x++) {
            text.append(x == 0 ? "" : " ").append(keeper.time(x, what));
        }
        return text.toString();
    }
}
