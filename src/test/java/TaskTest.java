/** Promises 1, 2, 3, 9 and 10: a new object, task, weigh, place, at. */
public final class TaskTest {
    private static final Dues D = new Dues("TaskTest");

    public static void main(String[] args) {
        newObject();
        tasksAndTheirWeights();
        sixtyTasks();
        taskForgetsWhatUndoCouldTakeBack();
        weigh();
        placesOfNewTasks();
        D.end();
    }

    private static void newObject() {
        OrderKeeper k = new OrderKeeper();
        for (int what = 0; what <= 7; what++) {
            D.due("new: count(" + what + ")", k.count(what), 0);
        }
        D.due("new: count(8)", k.count(8), -1);
        D.due("new: count(-1)", k.count(-1), -1);
        D.due("new: place(0)", k.place(0), -1);
        D.due("new: at(0)", k.at(0), -1);
        D.due("new: undo()", k.undo(), 0);
        D.due("new: commit()", k.commit(), 0);
        D.due("new: tie(0, 0)", k.tie(0, 0), -1);
        D.due("new: untie(0, 0)", k.untie(0, 0), 0);
        D.due("new: gather(0, 0)", k.gather(0, 0), -1);
        D.due("new: weigh(0, 1)", k.weigh(0, 1), 0);
        D.due("new: reaches(0, 0)", k.reaches(0, 0), -1);
        D.due("new: tied(0, 0)", k.tied(0, 0), -1);
        D.due("new: witness(0)", k.witness(0), -1);
        D.due("new: time(0, 0)", k.time(0, 0), -1);
        D.due("new: critical(0)", k.critical(0), -1);
        D.due("new: planned(0, 0)", k.planned(0, 0), -1);
        D.due("new: plan(1)", k.plan(1), 0);
        D.due("new: check()", k.check(), 1);
    }

    private static void tasksAndTheirWeights() {
        OrderKeeper k = new OrderKeeper();
        D.due("task(0)", k.task(0), 0);
        D.due("task(1000)", k.task(1000), 1);
        D.due("task(-1)", k.task(-1), -1);
        D.due("task(1001)", k.task(1001), -1);
        D.due("task(least)", k.task(Integer.MIN_VALUE), -1);
        D.due("task(greatest)", k.task(Integer.MAX_VALUE), -1);
        D.due("task(7)", k.task(7), 2);
        D.due("weights", Dues.times(k, 3), "0 1000 7");
        D.due("count(0)", k.count(0), 3);
    }

    private static void sixtyTasks() {
        OrderKeeper k = new OrderKeeper();
        for (int t = 0; t < 60; t++) {
            D.due("task " + t, k.task(t), t);
        }
        D.due("task 60", k.task(1), -1);
        D.due("count(0) of 60", k.count(0), 60);
        D.due("place(59)", k.place(59), 59);
        D.due("place(60)", k.place(60), -1);
        D.due("at(60)", k.at(60), -1);
        D.due("weigh(59, 1)", k.weigh(59, 1), 1);
        D.due("weigh(60, 1)", k.weigh(60, 1), 0);
    }

    private static void taskForgetsWhatUndoCouldTakeBack() {
        OrderKeeper k = Dues.withTasks(1, 1);
        k.tie(1, 0);
        k.weigh(0, 5);
        k.task(-1);
        D.due("count(3) after a task that is none", k.count(3), 2);
        k.task(2);
        D.due("count(3) after a task", k.count(3), 0);
        D.due("undo() after a task", k.undo(), 0);
        D.due("ties stay", k.tied(1, 0), 1);
        D.due("weights stay", k.time(0, 3), 5);
        k.weigh(2, 3);
        D.due("undo() of what came behind", k.undo(), 1);
        D.due("undo() once more", k.undo(), 0);
    }

    private static void weigh() {
        OrderKeeper k = Dues.withTasks(1, 2);
        D.due("weigh(0, 1000)", k.weigh(0, 1000), 1);
        D.due("weigh(1, 0)", k.weigh(1, 0), 1);
        D.due("weights", Dues.times(k, 3), "1000 0");
        D.due("weigh(0, 1001)", k.weigh(0, 1001), 0);
        D.due("weigh(0, -1)", k.weigh(0, -1), 0);
        D.due("weigh(2, 1)", k.weigh(2, 1), 0);
        D.due("weigh(-1, 1)", k.weigh(-1, 1), 0);
        D.due("weights stay", Dues.times(k, 3), "1000 0");
        D.due("count(3)", k.count(3), 2);
        D.due("weigh(0, 1000) again", k.weigh(0, 1000), 1);
        D.due("count(3) again", k.count(3), 3);
    }

    private static void placesOfNewTasks() {
        OrderKeeper k = Dues.withTasks(1, 1, 1);
        k.tie(2, 0);
        D.due("order", Dues.order(k), "2 1 0");
        D.due("task", k.task(1), 3);
        D.due("a new task is the last", Dues.order(k), "2 1 0 3");
        D.due("place(0)", k.place(0), 2);
        D.due("at(0)", k.at(0), 2);
        D.due("place(-1)", k.place(-1), -1);
        D.due("at(-1)", k.at(-1), -1);
        D.due("place(4)", k.place(4), -1);
        D.due("at(4)", k.at(4), -1);
        D.due("place(greatest)", k.place(Integer.MAX_VALUE), -1);
        D.due("at(least)", k.at(Integer.MIN_VALUE), -1);
    }
}
