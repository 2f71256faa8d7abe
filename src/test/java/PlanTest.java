/** Promises 17 and 18: plan, planned. */
public final class PlanTest {
    private static final Dues D = new Dues("PlanTest");

    public static void main(String[] args) {
        wrongInputs();
        greatestTailFirst();
        leastWorkerFirst();
        zeroWeightsAreDoneAtOnce();
        endsTogether();
        planStays();
        sixtyTasks();
        D.end();
    }

    private static void wrongInputs() {
        OrderKeeper k = Dues.withTasks(3, 4);
        D.due("planned(0, 0) without a plan", k.planned(0, 0), -1);
        D.due("planned(0, 1) without a plan", k.planned(0, 1), -1);
        D.due("plan(0) before any", k.plan(0), -1);
        D.due("planned(0, 0) still", k.planned(0, 0), -1);
        D.due("plan(1)", k.plan(1), 7);
        D.due("plan", Dues.plan(k), "4/0 0/0");
        D.due("plan(0)", k.plan(0), -1);
        D.due("plan(9)", k.plan(9), -1);
        D.due("plan(-1)", k.plan(-1), -1);
        D.due("plan(greatest)", k.plan(Integer.MAX_VALUE), -1);
        D.due("plan(least)", k.plan(Integer.MIN_VALUE), -1);
        D.due("the plan stays", Dues.plan(k), "4/0 0/0");
        D.due("planned(0, 2)", k.planned(0, 2), -1);
        D.due("planned(0, -1)", k.planned(0, -1), -1);
        D.due("planned(2, 0)", k.planned(2, 0), -1);
        D.due("planned(-1, 1)", k.planned(-1, 1), -1);
        D.due("planned(greatest, 0)", k.planned(Integer.MAX_VALUE, 0), -1);
    }

    private static void greatestTailFirst() {
        // Tails: 0 has 3, 1 has 6, 2 has 3, 3 has 5.
        OrderKeeper k = Dues.withTasks(3, 1, 3, 5);
        k.tie(1, 3);
        D.due("plan(1)", k.plan(1), 12);
        D.due("of one tail the least", Dues.plan(k), "6/0 0/0 9/0 1/0");
        D.due("plan(2)", k.plan(2), 6);
        D.due("plan for two", Dues.plan(k), "0/1 0/0 3/1 1/0");
    }

    private static void leastWorkerFirst() {
        OrderKeeper k = Dues.withTasks(5, 3, 3, 2);
        D.due("plan(3)", k.plan(3), 5);
        D.due("plan", Dues.plan(k), "0/0 0/1 0/2 3/1");
        D.due("plan(8)", k.plan(8), 5);
        D.due("plan for eight", Dues.plan(k), "0/0 0/1 0/2 0/3");
    }

    private static void zeroWeightsAreDoneAtOnce() {
        // 0 is done at once, so 1 is ready before the lesser tail of 2 is looked at.
        OrderKeeper k = Dues.withTasks(0, 5, 4);
        k.tie(0, 1);
        D.due("plan(1)", k.plan(1), 9);
        D.due("plan", Dues.plan(k), "0/0 0/0 5/0");
        D.due("plan(2)", k.plan(2), 5);
        D.due("its worker is free at once", Dues.plan(k), "0/0 0/0 0/1");
        OrderKeeper zeros = Dues.withTasks(0, 0, 0);
        zeros.tie(2, 1);
        zeros.tie(1, 0);
        D.due("plan(1) of zeros", zeros.plan(1), 0);
        D.due("plan of zeros", Dues.plan(zeros), "0/0 0/0 0/0");
        D.due("plan(2) of zeros", zeros.plan(2), 0);
        D.due("the first worker has all zeros", Dues.plan(zeros), "0/0 0/0 0/0");
        // What 0 makes ready goes to both workers before the lesser tail of 3.
        OrderKeeper opens = Dues.withTasks(0, 9, 8, 7);
        opens.tie(0, 1);
        opens.tie(0, 2);
        D.due("plan(2) of what a zero opens", opens.plan(2), 15);
        D.due("plan of what a zero opens", Dues.plan(opens), "0/0 0/0 0/1 8/1");
        OrderKeeper loose = Dues.withTasks(0, 0);
        loose.plan(2);
        D.due("plan of loose zeros", Dues.plan(loose), "0/0 0/0");
        // A task without weight waits for a free worker too.
        OrderKeeper busy = Dues.withTasks(4, 0);
        D.due("plan(1) of a busy one", busy.plan(1), 4);
        D.due("plan of a busy one", Dues.plan(busy), "0/0 4/0");
    }

    private static void endsTogether() {
        // 0 and 1 end together: 2 needs both, and 3 has the greater tail.
        OrderKeeper k = Dues.withTasks(2, 2, 1, 4);
        k.tie(0, 2);
        k.tie(1, 2);
        k.tie(1, 3);
        D.due("plan(2)", k.plan(2), 6);
        D.due("plan", Dues.plan(k), "0/1 0/0 2/1 2/0");
    }

    private static void planStays() {
        OrderKeeper k = Dues.withTasks(1, 2);
        k.tie(0, 1);
        D.due("plan(1)", k.plan(1), 3);
        k.untie(0, 1);
        k.tie(1, 0);
        k.weigh(0, 9);
        D.due("plan", Dues.plan(k), "0/0 1/0");
        k.task(1);
        D.due("a task that was not there then", Dues.plan(k), "0/0 1/0 -1/-1");
        D.due("plan(1) anew", k.plan(1), 12);
        D.due("plan anew", Dues.plan(k), "2/0 0/0 11/0");
        OrderKeeper none = new OrderKeeper();
        D.due("plan(1) without tasks", none.plan(1), 0);
        none.task(3);
        D.due("planned(0, 0)", none.planned(0, 0), -1);
    }

    private static void sixtyTasks() {
        OrderKeeper k = new OrderKeeper();
        for (int t = 0; t < 60; t++) {
            k.task(1000);
        }
        D.due("plan(1)", k.plan(1), 60000);
        D.due("planned(59, 0)", k.planned(59, 0), 59000);
        D.due("plan(8)", k.plan(8), 8000);
        D.due("planned(59, 0)", k.planned(59, 0), 7000);
        D.due("planned(59, 1)", k.planned(59, 1), 3);
    }
}
