/** Edges of plans: promises 17 and 18, and what the terms say of them. */
final class PlanEdges {
    private final Sentences s;

    PlanEdges(Sentences sentences) {
        s = sentences;
    }

    void all() {
        fromZeroOn();
        readyWhenAllAreDone();
        allThatEndThenAreDone();
        leastFreeWorker();
        greatestTail();
        leastOfOneTail();
        weightZeroIsDoneAtOnce();
        weightZeroWaitsForAWorker();
        timeGoesToTheNextEnd();
        oneToEightWorkers();
        planOfNothing();
        workersThatAreNone();
        plannedAtTheEdges();
        plannedOfTheLatest();
        plannedOfNone();
        plannedOfOneThatWasNotThere();
    }

    private void fromZeroOn() {
        s.says("Terms", "A PLAN for some workers: time from 0 on;");
        OrderKeeper k = Dues.withTasks(1000);
        s.due("plan(1)", k.plan(1), 1000);
        s.due("plan", Dues.plan(k), "0/0");
        OrderKeeper rows = Dues.withTasks(1, 2, 3);
        rows.tie(2, 1);
        rows.tie(1, 0);
        s.due("plan(8)", rows.plan(8), 6);
        s.due("plan of a row", Dues.plan(rows), "5/0 3/0 0/0");
    }

    private void readyWhenAllAreDone() {
        s.says("Terms", "a task is READY when all that have ties to it are done.");
        OrderKeeper k = Dues.withTasks(2, 5, 1);
        k.tie(0, 2);
        k.tie(1, 2);
        s.due("plan(3)", k.plan(3), 6);
        s.due("2 waits for the longer one", Dues.plan(k), "0/1 0/0 5/0");
        k.untie(1, 2);
        s.due("plan(3) without that tie", k.plan(3), 5);
        s.due("2 waits for the shorter one", Dues.plan(k), "0/1 0/0 2/1");
        k.untie(0, 2);
        s.due("plan(3) without ties", k.plan(3), 5);
        s.due("2 waits for none", Dues.plan(k), "0/1 0/0 0/2");
        OrderKeeper last = Dues.withManyTasks(60);
        for (int t = 0; t < 59; t++) {
            last.weigh(t, 1);
            last.tie(t, 59);
        }
        s.due("plan(8) of one that waits for 59", last.plan(8), 8);
        s.due("planned(59, 0)", last.planned(59, 0), 8);
    }

    private void allThatEndThenAreDone() {
        s.says("Terms", "At each time, when all that end then are done,");
        // 2 needs 0 and 1, which end together: so it is ready when the first worker takes 3 or it.
        OrderKeeper k = Dues.withTasks(2, 2, 4, 1);
        k.tie(0, 2);
        k.tie(1, 2);
        k.tie(0, 3);
        s.due("plan(2)", k.plan(2), 6);
        s.due("plan", Dues.plan(k), "0/0 0/1 2/0 2/1");
        OrderKeeper all = Dues.withTasks(3, 3, 3, 3, 3, 3, 3, 3, 5);
        for (int t = 0; t < 8; t++) {
            all.tie(t, 8);
        }
        s.due("plan(8) of eight that end together", all.plan(8), 8);
        s.due("planned(8, 0)", all.planned(8, 0), 3);
        s.due("planned(8, 1)", all.planned(8, 1), 0);
    }

    private void leastFreeWorker() {
        s.says("Terms", "workers that are free, the least first, take ready tasks,");
        OrderKeeper k = Dues.withTasks(9, 2, 3, 1, 5);
        // Worker 1 is free from 2 on, but 3 is ready when worker 2 has ended.
        k.tie(0, 4);
        k.tie(1, 4);
        k.tie(2, 3);
        s.due("plan(3)", k.plan(3), 14);
        s.due("plan", Dues.plan(k), "0/0 0/1 0/2 3/1 9/0");
        OrderKeeper eight = Dues.withTasks(9, 8, 7, 6, 5, 4, 3, 2, 1);
        s.due("plan(8)", eight.plan(8), 9);
        s.due("all eight take one", Dues.plan(eight), "0/0 0/1 0/2 0/3 0/4 0/5 0/6 0/7 2/7");
        s.due("plan(7)", eight.plan(7), 9);
        s.due("seven take one", Dues.plan(eight), "0/0 0/1 0/2 0/3 0/4 0/5 0/6 3/6 4/5");
    }

    private void greatestTail() {
        s.says("Terms", "those of the greatest TAIL first (the sum of weights on a way from it, with its own, the greatest),");
        OrderKeeper k = Dues.withTasks(1, 5, 3, 3);
        // Two ways of 4 lead from 0: that is less than 5, though all its tasks have 7.
        k.tie(0, 2);
        k.tie(0, 3);
        s.due("tails", Dues.times(k, 2), "4 5 3 3");
        s.due("plan(1)", k.plan(1), 12);
        s.due("plan", Dues.plan(k), "5/0 0/0 6/0 9/0");
        k.weigh(2, 5);
        s.due("tails", Dues.times(k, 2), "6 5 5 3");
        s.due("plan(1) with one more", k.plan(1), 14);
        s.due("plan", Dues.plan(k), "0/0 1/0 6/0 11/0");
    }

    private void leastOfOneTail() {
        s.says("Terms", "of one tail the least;");
        OrderKeeper k = Dues.withTasks(3, 3, 3);
        s.due("plan(1)", k.plan(1), 9);
        s.due("plan", Dues.plan(k), "0/0 3/0 6/0");
        // The places are others, and do not count here.
        k.tie(2, 0);
        k.untie(2, 0);
        s.due("order", Dues.order(k), "2 1 0");
        s.due("plan(2)", k.plan(2), 6);
        s.due("plan", Dues.plan(k), "0/0 0/1 3/0");
        OrderKeeper row = Dues.withTasks(4, 3, 1);
        row.tie(1, 2);
        s.due("plan(1) of a weight and a row", row.plan(1), 8);
        s.due("plan", Dues.plan(row), "0/0 4/0 7/0");
    }

    private void weightZeroIsDoneAtOnce() {
        s.says("Terms", "a task of weight 0 is done at once, and its worker free, before others are looked at.");
        OrderKeeper k = Dues.withTasks(0, 9, 8, 7);
        // What 0 opens comes before 3, which was ready at first.
        k.tie(0, 1);
        k.tie(0, 2);
        s.due("plan(2)", k.plan(2), 15);
        s.due("plan", Dues.plan(k), "0/0 0/0 0/1 8/1");
        OrderKeeper zeros = Dues.withManyTasks(60);
        for (int t = 59; t > 0; t--) {
            zeros.tie(t, t - 1);
        }
        s.due("plan(8) of zeros", zeros.plan(8), 0);
        for (int t = 0; t < 60; t += 59) {
            s.due("planned(" + t + ", 0)", zeros.planned(t, 0), 0);
            s.due("planned(" + t + ", 1)", zeros.planned(t, 1), 0);
        }
        OrderKeeper later = Dues.withTasks(4, 6, 0, 2);
        // 2 is done when 0 ends, by the worker who then takes 3.
        later.tie(0, 2);
        later.tie(2, 3);
        s.due("plan(2)", later.plan(2), 6);
        s.due("plan", Dues.plan(later), "0/0 0/1 4/0 4/0");
        OrderKeeper both = Dues.withTasks(4, 0, 2);
        both.tie(0, 1);
        both.tie(1, 2);
        both.tie(0, 2);
        s.due("plan(1) of one that waits for a weight and a zero", both.plan(1), 6);
        s.due("plan", Dues.plan(both), "0/0 4/0 4/0");
    }

    private void weightZeroWaitsForAWorker() {
        s.says("Terms", "workers that are free, the least first, take ready tasks,");
        OrderKeeper k = Dues.withTasks(4, 0);
        s.due("plan(1)", k.plan(1), 4);
        s.due("plan", Dues.plan(k), "0/0 4/0");
        s.due("plan(2)", k.plan(2), 4);
        s.due("plan with a second worker", Dues.plan(k), "0/0 0/1");
    }

    private void timeGoesToTheNextEnd() {
        s.says("Terms", "Time goes on to when the next one ends.");
        OrderKeeper k = Dues.withTasks(7, 3, 1, 1);
        s.due("plan(2)", k.plan(2), 7);
        s.due("plan", Dues.plan(k), "0/0 0/1 3/1 4/1");
        OrderKeeper idle = Dues.withTasks(1000, 1);
        idle.tie(0, 1);
        s.due("plan(8) with workers who wait", idle.plan(8), 1001);
        s.due("plan", Dues.plan(idle), "0/0 1000/0");
        s.due("the last to end is not the last to begin", Dues.withTasks(9, 2, 1).plan(2), 9);
    }

    private void oneToEightWorkers() {
        s.says("Promise 17", "Plans for so many workers: the time at which all are done.");
        OrderKeeper k = new OrderKeeper();
        for (int t = 0; t < 60; t++) {
            k.task(1000);
        }
        int[] ends = {60000, 30000, 20000, 15000, 12000, 10000, 9000, 8000};
        for (int workers = 1; workers <= 8; workers++) {
            s.due("plan(" + workers + ")", k.plan(workers), ends[workers - 1]);
            s.due("planned(59, 1)", k.planned(59, 1), 59 % workers);
            s.due("planned(59, 0)", k.planned(59, 0), 59 / workers * 1000);
        }
    }

    private void planOfNothing() {
        s.says("Promise 17", "Plans for so many workers: the time at which all are done.");
        OrderKeeper k = new OrderKeeper();
        s.due("plan(1) without tasks", k.plan(1), 0);
        s.due("plan(8) without tasks", k.plan(8), 0);
        k.task(0);
        s.due("plan(1) of weight 0", k.plan(1), 0);
        s.due("plan", Dues.plan(k), "0/0");
        k.task(1);
        s.due("plan(8) of more workers than tasks", k.plan(8), 1);
    }

    private void workersThatAreNone() {
        s.says("Promise 17", "NONE, and the plan stays, when they are not 1 .. 8.");
        OrderKeeper k = Dues.withTasks(3, 4);
        s.due("plan(0) before any plan", k.plan(0), -1);
        s.due("there is no plan", Dues.plan(k), "-1/-1 -1/-1");
        s.due("plan(1)", k.plan(1), 7);
        k.weigh(0, 9);
        k.task(5);
        for (int workers : new int[] {
            0, -1, -8, 9, 10, 16, 17, 257, 65537, Integer.MAX_VALUE, Integer.MIN_VALUE, Integer.MIN_VALUE + 1}) {
            s.due("plan(" + workers + ")", k.plan(workers), -1);
            s.due("the plan stays", Dues.plan(k), "4/0 0/0 -1/-1");
        }
        s.due("plan(8)", k.plan(8), 9);
        s.due("another plan", Dues.plan(k), "0/0 0/2 0/1");
        s.due("plan(9)", k.plan(9), -1);
        s.due("it stays", Dues.plan(k), "0/0 0/2 0/1");
    }

    private void plannedAtTheEdges() {
        s.says("Promise 18", "Of the latest plan, when a task begins (what 0) and which worker has it (1);");
        OrderKeeper k = Dues.withTasks(1000, 1000, 0);
        k.tie(0, 2);
        k.tie(1, 2);
        s.due("plan(2)", k.plan(2), 1000);
        s.due("planned(0, 0)", k.planned(0, 0), 0);
        s.due("planned(0, 1)", k.planned(0, 1), 0);
        s.due("planned(1, 1)", k.planned(1, 1), 1);
        s.due("planned(2, 0)", k.planned(2, 0), 1000);
        s.due("planned(2, 1)", k.planned(2, 1), 0);
    }

    private void plannedOfTheLatest() {
        s.says("Promise 18", "Of the latest plan,");
        OrderKeeper k = Dues.withTasks(1, 2);
        k.plan(1);
        s.due("plan for one", Dues.plan(k), "2/0 0/0");
        k.plan(2);
        s.due("plan for two", Dues.plan(k), "0/1 0/0");
        k.weigh(0, 5);
        k.tie(0, 1);
        k.undo();
        k.gather(1, 0);
        k.commit();
        s.due("it stays, whatever is done", Dues.plan(k), "0/1 0/0");
        k.plan(2);
        s.due("plan anew", Dues.plan(k), "2/0 0/0");
    }

    private void plannedOfNone() {
        s.says("Promise 18", "NONE when there is none such,");
        OrderKeeper k = Dues.withTasks(5, 6);
        s.due("planned(0, 0) without a plan", k.planned(0, 0), -1);
        s.due("planned(0, 1) without a plan", k.planned(0, 1), -1);
        k.plan(2);
        for (int x : Dues.noTasks(2)) {
            s.due("planned(" + x + ", 0)", k.planned(x, 0), -1);
            s.due("planned(" + x + ", 1)", k.planned(x, 1), -1);
        }
        for (int what : new int[] {
            -1, -2, 2, 3, 64, 256, 65536, Integer.MAX_VALUE, Integer.MIN_VALUE, Integer.MIN_VALUE + 1}) {
            s.due("planned(0, " + what + ")", k.planned(0, what), -1);
        }
        OrderKeeper full = Dues.withManyTasks(60);
        full.plan(8);
        s.due("planned(59, 0)", full.planned(59, 0), 0);
        s.due("planned(60, 0)", full.planned(60, 0), -1);
        OrderKeeper none = new OrderKeeper();
        none.plan(1);
        s.due("planned(0, 0) of no tasks", none.planned(0, 0), -1);
    }

    private void plannedOfOneThatWasNotThere() {
        s.says("Promise 18", "or it was not there then.");
        OrderKeeper k = new OrderKeeper();
        k.plan(1);
        k.task(3);
        s.due("planned(0, 0) of an empty plan", k.planned(0, 0), -1);
        s.due("planned(0, 1) of an empty plan", k.planned(0, 1), -1);
        k.plan(1);
        s.due("planned(0, 0)", k.planned(0, 0), 0);
        k.task(4);
        s.due("planned(1, 0)", k.planned(1, 0), -1);
        s.due("planned(1, 1)", k.planned(1, 1), -1);
        s.due("planned(0, 0) stays", k.planned(0, 0), 0);
        k.plan(9);
        s.due("planned(1, 0) after a refused plan", k.planned(1, 0), -1);
        k.plan(1);
        s.due("planned(1, 0) of a new plan", k.planned(1, 0), 0);
        s.due("planned(0, 0) of a new plan", k.planned(0, 0), 4);
    }
}
