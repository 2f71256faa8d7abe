/** Edges of tasks, weights and places: promises 1, 2, 3, 9 and 10, and what the terms say of them. */
final class TaskEdges {
    private static final int[] NO_WEIGHTS = {
        -1, -2, -1000, 1001, 1002, 1024, 32768, 65536, 65537, 1 << 30, Integer.MAX_VALUE, Integer.MIN_VALUE,
        Integer.MIN_VALUE + 1};
    private final Sentences s;

    TaskEdges(Sentences sentences) {
        s = sentences;
    }

    void all() {
        sixtyTasksFromZero();
        leastAndGreatestWeight();
        newObjectIsEmpty();
        newObjectAnswersNothing();
        numbersGoOnWithoutGaps();
        oneMoreAndNothingElse();
        weightsThatAreNone();
        theSixtyFirst();
        taskForgets();
        taskForgetsAFullPast();
        weighAtTheEdges();
        weighOfNoTask();
        weighToNoWeight();
        placesFromZeroOn();
        newOnesAreLast();
        placeOfNoTask();
        taskAtNoPlace();
    }

    private void sixtyTasksFromZero() {
        s.says("Terms", "TASKS are numbered from 0, at most 60,");
        OrderKeeper k = new OrderKeeper();
        for (int t = 0; t < 60; t++) {
            s.due("task " + t, k.task(1), t);
        }
        s.due("one more", k.task(1), -1);
        s.due("count(0)", k.count(0), 60);
        s.due("tie(59, 0)", k.tie(59, 0), 1);
        s.due("place(59)", k.place(59), 0);
        s.due("at(59)", k.at(59), 0);
        s.due("reaches(59, 0)", k.reaches(59, 0), 1);
        s.due("reaches(0, 59)", k.reaches(0, 59), 0);
        s.due("tied(59, 0)", k.tied(59, 0), 1);
        s.due("tie(0, 59)", k.tie(0, 59), -2);
        s.due("witness(0)", k.witness(0), 59);
        s.due("time(0, 0)", k.time(0, 0), 1);
        s.due("weigh(59, 5)", k.weigh(59, 5), 1);
        s.due("critical(0)", k.critical(0), 59);
        s.due("critical(1)", k.critical(1), 0);
        s.due("plan(8)", k.plan(8), 8);
        s.due("planned(59, 1)", k.planned(59, 1), 0);
        s.due("untie(59, 0)", k.untie(59, 0), 1);
    }

    private void leastAndGreatestWeight() {
        s.says("Terms", "each with a WEIGHT of 0 to 1000.");
        OrderKeeper k = Dues.withTasks(0, 1000, 1, 999);
        s.due("weights", Dues.times(k, 3), "0 1000 1 999");
        s.due("count(7)", k.count(7), 1000);
        s.due("tails", Dues.times(k, 2), "0 1000 1 999");
    }

    private void newObjectIsEmpty() {
        s.says("Promise 1", "No tasks.");
        OrderKeeper used = Dues.withTasks(5, 6);
        used.tie(1, 0);
        used.tie(0, 1);
        used.gather(1, 0);
        used.plan(1);
        String before = Dues.state(used);
        OrderKeeper k = new OrderKeeper();
        for (int what = 0; what <= 7; what++) {
            s.due("count(" + what + ")", k.count(what), 0);
        }
        s.due("check()", k.check(), 1);
        s.due("task(9)", k.task(9), 0);
        s.due("the other object is as it was", Dues.state(used), before);
    }

    private void newObjectAnswersNothing() {
        s.says("Promise 1", "No tasks.");
        OrderKeeper k = new OrderKeeper();
        for (int x : new int[] {0, 1, 59, -1}) {
            s.due("place(" + x + ")", k.place(x), -1);
            s.due("at(" + x + ")", k.at(x), -1);
            s.due("weigh(" + x + ", 1)", k.weigh(x, 1), 0);
            s.due("tie(" + x + ", 0)", k.tie(x, 0), -1);
            s.due("untie(" + x + ", 0)", k.untie(x, 0), 0);
            s.due("gather(" + x + ", 0)", k.gather(x, 0), -1);
            s.due("reaches(" + x + ", 0)", k.reaches(x, 0), -1);
            s.due("tied(" + x + ", 0)", k.tied(x, 0), -1);
            s.due("witness(" + x + ")", k.witness(x), -1);
            s.due("time(" + x + ", 0)", k.time(x, 0), -1);
            s.due("critical(" + x + ")", k.critical(x), -1);
            s.due("planned(" + x + ", 0)", k.planned(x, 0), -1);
        }
        s.due("commit()", k.commit(), 0);
        s.due("undo()", k.undo(), 0);
        s.due("count(0)", k.count(0), 0);
    }

    private void numbersGoOnWithoutGaps() {
        s.says("Promise 2", "One more task: its number.");
        OrderKeeper k = new OrderKeeper();
        s.due("the first", k.task(0), 0);
        k.task(-1);
        k.task(1001);
        s.due("the second, after refused ones", k.task(1000), 1);
        k.weigh(0, 5);
        k.undo();
        s.due("the third, after an undo", k.task(7), 2);
        s.due("weights", Dues.times(k, 3), "0 1000 7");
        s.due("order", Dues.order(k), "0 1 2");
    }

    private void oneMoreAndNothingElse() {
        s.says("Promise 2", "One more task: its number.");
        OrderKeeper k = Dues.withTasks(3, 4);
        k.tie(0, 1);
        k.tie(1, 0);
        k.gather(0, 1);
        k.untie(0, 1);
        k.tie(1, 0);
        k.plan(1);
        s.due("task(5)", k.task(5), 2);
        s.due("ties", Dues.ties(k), " 1>0");
        s.due("the bundle stays", k.count(2), 1);
        s.due("the witness stays", Dues.witness(k), "0 1");
        s.due("count(5) stays", k.count(5), 2);
        s.due("the plan stays", Dues.plan(k), "4/0 0/0 -1/-1");
    }

    private void weightsThatAreNone() {
        s.says("Promise 2", "NONE when the weight is not 0 .. 1000,");
        OrderKeeper k = Dues.withTasks(1, 2);
        k.tie(1, 0);
        String before = Dues.state(k);
        for (int weight : NO_WEIGHTS) {
            s.due("task(" + weight + ")", k.task(weight), -1);
        }
        s.due("all is as before", Dues.state(k), before);
        s.due("task(0)", k.task(0), 2);
        s.due("task(1000)", k.task(1000), 3);
    }

    private void theSixtyFirst() {
        s.says("Promise 2", "or there are 60.");
        OrderKeeper k = Dues.withManyTasks(59);
        s.due("the sixtieth", k.task(1000), 59);
        k.tie(59, 0);
        k.weigh(3, 4);
        for (int weight : new int[] {0, 1, 1000, -1, 1001}) {
            s.due("task(" + weight + ") when there are 60", k.task(weight), -1);
        }
        s.due("count(0)", k.count(0), 60);
        s.due("count(3): nothing is forgotten", k.count(3), 2);
        s.due("place(59)", k.place(59), 0);
        s.due("place(60)", k.place(60), -1);
        s.due("at(60)", k.at(60), -1);
        s.due("time(59, 3)", k.time(59, 3), 1000);
    }

    private void taskForgets() {
        s.says("Promise 2", "What undo() could take back is forgotten.");
        OrderKeeper k = Dues.withTasks(1, 2, 3);
        k.tie(2, 0);
        k.weigh(1, 9);
        k.gather(1, 0);
        k.commit();
        k.untie(2, 0);
        s.due("count(3) before", k.count(3), 4);
        s.due("task(0)", k.task(0), 3);
        s.due("count(3)", k.count(3), 0);
        s.due("undo()", k.undo(), 0);
        s.due("weights stay", Dues.times(k, 3), "1 9 3 0");
        s.due("ties stay", Dues.ties(k), " 1>0");
        s.due("order stays", Dues.order(k), "2 1 0 3");
        k.weigh(3, 1);
        s.due("undo() of what came behind", k.undo(), 1);
        s.due("undo() once more", k.undo(), 0);
        s.due("count(0): undo takes no task back", k.count(0), 4);
    }

    private void taskForgetsAFullPast() {
        s.says("Promise 2", "What undo() could take back is forgotten.");
        OrderKeeper k = Dues.withTasks(0);
        for (int w = 1; w <= 70; w++) {
            k.weigh(0, w);
        }
        k.task(0);
        s.due("undo() of a full past", k.undo(), 0);
        s.due("time(0, 3)", k.time(0, 3), 70);
        for (int w = 71; w <= 140; w++) {
            k.weigh(0, w);
        }
        for (int i = 0; i < 64; i++) {
            k.undo();
        }
        s.due("time(0, 3) after 64 of 70", k.time(0, 3), 76);
        s.due("undo() of the 65th", k.undo(), 0);
    }

    private void weighAtTheEdges() {
        s.says("Promise 3", "A task has another weight: 1;");
        OrderKeeper k = Dues.withTasks(5, 6);
        s.due("weigh(0, 0)", k.weigh(0, 0), 1);
        s.due("weigh(1, 1000)", k.weigh(1, 1000), 1);
        s.due("weights", Dues.times(k, 3), "0 1000");
        s.due("weigh(1, 1000), as it is", k.weigh(1, 1000), 1);
        s.due("weigh(0, 1)", k.weigh(0, 1), 1);
        s.due("weigh(1, 999)", k.weigh(1, 999), 1);
        s.due("weights", Dues.times(k, 3), "1 999");
        s.due("count(3)", k.count(3), 5);
    }

    private void weighOfNoTask() {
        s.says("Promise 3", "0, and nothing is done, when there is no such task,");
        OrderKeeper k = Dues.withTasks(5, 6);
        String before = Dues.state(k);
        for (int x : Dues.noTasks(2)) {
            s.due("weigh(" + x + ", 1)", k.weigh(x, 1), 0);
            s.due("weigh(" + x + ", -1)", k.weigh(x, -1), 0);
        }
        s.due("all is as before", Dues.state(k), before);
        k.task(1);
        s.due("weigh(2, 0) of a task that is new", k.weigh(2, 0), 1);
    }

    private void weighToNoWeight() {
        s.says("Promise 3", "or it is not 0 .. 1000.");
        OrderKeeper k = Dues.withTasks(5, 6);
        k.tie(1, 0);
        String before = Dues.state(k);
        for (int weight : NO_WEIGHTS) {
            s.due("weigh(1, " + weight + ")", k.weigh(1, weight), 0);
        }
        s.due("all is as before", Dues.state(k), before);
    }

    private void placesFromZeroOn() {
        s.says("Terms", "THE ORDER: each task has a PLACE, from 0 on;");
        OrderKeeper k = Dues.withManyTasks(60);
        k.tie(59, 0);
        k.tie(30, 29);
        boolean[] taken = new boolean[60];
        for (int t = 0; t < 60; t++) {
            int place = k.place(t);
            s.due("place(" + t + ") is one of 0 .. 59", place >= 0 && place < 60, true);
            if (place >= 0 && place < 60) {
                s.due("place " + place + " is another's too", taken[place], false);
                taken[place] = true;
            }
        }
    }

    private void newOnesAreLast() {
        s.says("Terms", "a new one the last.");
        OrderKeeper k = new OrderKeeper();
        k.task(1);
        s.due("place(0) of the only one", k.place(0), 0);
        k.task(1);
        s.due("place(1)", k.place(1), 1);
        k.tie(1, 0);
        k.task(0);
        s.due("order", Dues.order(k), "1 0 2");
        k.tie(2, 1);
        k.undo();
        k.task(1000);
        s.due("order after an undo", Dues.order(k), "1 0 2 3");
        OrderKeeper full = Dues.withManyTasks(59);
        full.tie(58, 0);
        full.task(1);
        s.due("place(59) of the sixtieth", full.place(59), 59);
        s.due("at(59)", full.at(59), 59);
    }

    private void placeOfNoTask() {
        s.says("Promise 9", "The place of a task; NONE when there is none such.");
        OrderKeeper k = Dues.withManyTasks(3);
        k.tie(2, 0);
        s.due("place(2), the first", k.place(2), 0);
        s.due("place(0), the last", k.place(0), 2);
        for (int x : Dues.noTasks(3)) {
            s.due("place(" + x + ")", k.place(x), -1);
        }
        OrderKeeper full = Dues.withManyTasks(60);
        s.due("place(59)", full.place(59), 59);
        for (int x : Dues.noTasks(60)) {
            s.due("place(" + x + ") of 60", full.place(x), -1);
        }
        s.due("place(0) of none", new OrderKeeper().place(0), -1);
    }

    private void taskAtNoPlace() {
        s.says("Promise 10", "The task at a place; NONE when there is none such.");
        OrderKeeper k = Dues.withManyTasks(3);
        k.tie(2, 0);
        s.due("at(0)", k.at(0), 2);
        s.due("at(2)", k.at(2), 0);
        for (int place : Dues.noTasks(3)) {
            s.due("at(" + place + ")", k.at(place), -1);
        }
        OrderKeeper full = Dues.withManyTasks(60);
        s.due("at(59)", full.at(59), 59);
        for (int place : Dues.noTasks(60)) {
            s.due("at(" + place + ") of 60", full.at(place), -1);
        }
        s.due("at(0) of none", new OrderKeeper().at(0), -1);
    }
}
