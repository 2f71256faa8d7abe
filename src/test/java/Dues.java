/** Counts the answers that are not as due, and prints them. */
final class Dues {
    private final String name;
    private int wrong;
    private int looked;

    Dues(String name) {
        this.name = name;
    }

    void due(String call, Object got, Object want) {
        looked++;
        if (!want.equals(got)) {
            wrong++;
            System.out.println(name + ": " + call + " answered " + got + ", due is " + want);
        }
    }

    void end() {
        System.out.println(name + ": " + looked + " answers, " + wrong + " not as due");
        if (wrong != 0) {
            System.exit(1);
        }
    }

    static OrderKeeper withTasks(int... weights) {
        OrderKeeper keeper = new OrderKeeper();
        for (int weight : weights) {
            keeper.task(weight);
        }
        return keeper;
    }

    static OrderKeeper withManyTasks(int many) {
        return withTasks(new int[many]);
    }

    /** Ties from lesser to greater tasks, as many as asked for, each new. */
    static void tieMany(OrderKeeper keeper, int tasks, int many) {
        int left = many;
        for (int x = 0; x < tasks; x++) {
            for (int y = x + 1; y < tasks && left > 0; y++) {
                keeper.tie(x, y);
                left--;
            }
        }
    }

    /** The tasks by their places; the places are looked at too. */
    static String order(OrderKeeper keeper) {
        StringBuilder text = new StringBuilder();
        for (int p = 0; p < keeper.count(0); p++) {
            int t = keeper.at(p);
            text.append(p == 0 ? "" : " ").append(t);
            if (keeper.place(t) != p) {
                text.append("!");
            }
        }
        return text.toString();
    }

    static String witness(OrderKeeper keeper) {
        StringBuilder text = new StringBuilder();
        for (int k = 0; k < keeper.count(4); k++) {
            text.append(k == 0 ? "" : " ").append(keeper.witness(k));
        }
        return text.toString();
    }

    static String criticalRow(OrderKeeper keeper) {
        StringBuilder text = new StringBuilder();
        for (int k = 0; keeper.critical(k) != OrderKeeper.NONE; k++) {
            text.append(k == 0 ? "" : " ").append(keeper.critical(k));
        }
        return text.toString();
    }

    /** Of each task: when it begins, and by which worker. */
    static String plan(OrderKeeper keeper) {
        StringBuilder text = new StringBuilder();
        for (int x = 0; x < keeper.count(0); x++) {
            text.append(x == 0 ? "" : " ").append(keeper.planned(x, 0)).append("/").append(keeper.planned(x, 1));
        }
        return text.toString();
    }

    static String times(OrderKeeper keeper, int what) {
        StringBuilder text = new StringBuilder();
        for (int x = 0; x < keeper.count(0); x++) {
            text.append(x == 0 ? "" : " ").append(keeper.time(x, what));
        }
        return text.toString();
    }
}
