/** Edges of what is counted: promise 11. */
final class CountEdges {
    private static final String MOVED = "tasks that were moved by the latest tie() or commit() that was not NONE"
        + " (5: their place is another one than before it),";
    private final Sentences s;

    CountEdges(Sentences sentences) {
        s = sentences;
    }

    void all() {
        none();
        full();
        longestWitness();
        movedByNone();
        movedByAll();
        movedThatStaysWithNone();
        movedAndCameBack();
        notNeededAtTheEdges();
        allTimes();
        others();
    }

    private void none() {
        s.says("Promise 11", "How many tasks (what 0), ties (1), ties in the bundle (2), doings that can be taken back (3),"
            + " tasks of the latest witness (4),");
        OrderKeeper k = new OrderKeeper();
        for (int what = 0; what <= 4; what++) {
            s.due("count(" + what + ") of a new object", k.count(what), 0);
        }
        k.task(1);
        k.task(1);
        s.due("count(0)", k.count(0), 2);
        k.tie(1, 0);
        s.due("count(1)", k.count(1), 1);
        s.due("count(3)", k.count(3), 1);
        k.gather(0, 1);
        s.due("count(2)", k.count(2), 1);
        k.commit();
        s.due("count(4)", k.count(4), 2);
        k.untie(1, 0);
        s.due("count(1), none again", k.count(1), 0);
        s.due("count(2), none again", k.count(2), 0);
        s.due("count(3)", k.count(3), 2);
        k.undo();
        s.due("count(1)", k.count(1), 1);
        s.due("count(3)", k.count(3), 1);
    }

    private void full() {
        s.says("Promise 11", "How many tasks (what 0), ties (1), ties in the bundle (2), doings that can be taken back (3),");
        OrderKeeper k = Dues.withManyTies(400);
        s.due("count(1)", k.count(1), 400);
        s.due("count(3)", k.count(3), 64);
        k.tie(26, 25);
        s.due("count(1) of one too many", k.count(1), 400);
        OrderKeeper tasks = Dues.withManyTasks(60);
        s.due("count(0)", tasks.count(0), 60);
        tasks.task(0);
        s.due("count(0) of one too many", tasks.count(0), 60);
        for (int i = 0; i < 101; i++) {
            tasks.gather(59, i % 59);
        }
        s.due("count(2) of one too many", tasks.count(2), 100);
        for (int i = 0; i < 65; i++) {
            tasks.weigh(i % 60, i);
        }
        s.due("count(3) of one too many", tasks.count(3), 64);
    }

    private void longestWitness() {
        s.says("Promise 11", "tasks of the latest witness (4),");
        OrderKeeper k = Dues.withManyTasks(60);
        for (int t = 0; t < 59; t++) {
            k.tie(t, t + 1);
        }
        s.due("count(4) of none", k.count(4), 0);
        k.tie(59, 0);
        s.due("count(4) of the longest", k.count(4), 60);
        k.tie(30, 30);
        s.due("count(4) of the shortest", k.count(4), 1);
        k.tie(0, 59);
        k.tie(0, 60);
        k.undo();
        s.due("count(4) stays", k.count(4), 1);
        k.tie(59, 58);
        s.due("count(4) of one tie", k.count(4), 2);
    }

    private void movedByNone() {
        s.says("Promise 11", MOVED);
        OrderKeeper k = Dues.withManyTasks(4);
        s.due("count(5) before any tie", k.count(5), 0);
        k.tie(3, 2);
        s.due("count(5)", k.count(5), 2);
        k.tie(0, 1);
        s.due("count(5) of a tie that leads on", k.count(5), 0);
        k.tie(2, 1);
        s.due("count(5)", k.count(5), 3);
        k.tie(2, 1);
        s.due("count(5) of a tie that is there", k.count(5), 0);
        k.tie(1, 0);
        s.due("count(5) of a ring", k.count(5), 0);
        k.untie(0, 1);
        k.tie(1, 0);
        s.due("count(5)", k.count(5), 4);
        k.gather(0, 0);
        k.commit();
        s.due("count(5) of a ring in a bundle", k.count(5), 0);
        k.untie(1, 0);
        k.tie(0, 1);
        s.due("count(5)", k.count(5), 2);
        k.commit();
        s.due("count(5) of an empty bundle", k.count(5), 0);
    }

    private void movedByAll() {
        s.says("Promise 11", MOVED);
        OrderKeeper k = Dues.withManyTasks(60);
        for (int t = 59; t > 0; t--) {
            k.tie(t, t - 1);
        }
        s.due("count(5) of the last tie", k.count(5), 60);
        OrderKeeper two = Dues.withManyTasks(60);
        for (int t = 0; t < 30; t++) {
            two.gather(59 - t, t);
        }
        two.commit();
        s.due("count(5) of a bundle", two.count(5), 60);
    }

    private void movedThatStaysWithNone() {
        s.says("Promise 11", "that was not NONE");
        OrderKeeper k = Dues.withManyTies(399);
        k.tie(26, 25);
        s.due("count(5) of the 400th", k.count(5), 2);
        k.tie(28, 27);
        s.due("count(5) after a tie too many", k.count(5), 2);
        k.gather(28, 27);
        k.commit();
        s.due("count(5) after a bundle too many", k.count(5), 2);
        k.tie(29, 0);
        k.tie(0, -1);
        s.due("count(5) after ties of no tasks", k.count(5), 2);
        k.weigh(0, 5);
        k.untie(0, 1);
        k.undo();
        k.gather(3, 4);
        k.task(3);
        s.due("count(5) after other calls", k.count(5), 2);
        k.commit();
        s.due("count(5) after a commit of nothing new", k.count(5), 0);
    }

    private void movedAndCameBack() {
        s.says("Promise 11", "(5: their place is another one than before it)");
        OrderKeeper k = Dues.withManyTasks(3);
        k.gather(1, 0);
        k.gather(2, 1);
        s.due("commit()", k.commit(), 2);
        s.due("order", Dues.order(k), "2 1 0");
        s.due("count(5): 1 came back", k.count(5), 2);
    }

    private void notNeededAtTheEdges() {
        s.says("Promise 11", "the ties that are not needed (6: another way leads there) there are,");
        OrderKeeper k = Dues.withManyTasks(3);
        s.due("count(6) without ties", k.count(6), 0);
        k.tie(0, 2);
        k.tie(0, 1);
        s.due("count(6) without another way", k.count(6), 0);
        k.tie(1, 2);
        s.due("count(6) with one", k.count(6), 1);
        k.untie(0, 1);
        s.due("count(6) when it is cut", k.count(6), 0);
        OrderKeeper turned = Dues.withManyTasks(4);
        turned.tie(3, 2);
        turned.tie(2, 0);
        turned.tie(3, 0);
        s.due("count(6) of one from the last task to the first", turned.count(6), 1);
        OrderKeeper full = Dues.withManyTies(400);
        // Needed are 0>1 .. 24>25, and those from 24 to the three that have no ties among them.
        s.due("count(6) of 400", full.count(6), 400 - 28);
    }

    private void allTimes() {
        s.says("Promise 11", "all (7);");
        OrderKeeper k = new OrderKeeper();
        s.due("count(7) without tasks", k.count(7), 0);
        k.task(0);
        s.due("count(7) of weight 0", k.count(7), 0);
        k.task(1000);
        s.due("count(7) of weight 1000", k.count(7), 1000);
        OrderKeeper row = new OrderKeeper();
        for (int t = 0; t < 60; t++) {
            row.task(1000);
        }
        s.due("count(7) without ties", row.count(7), 1000);
        for (int t = 59; t > 0; t--) {
            row.tie(t, t - 1);
        }
        s.due("count(7) of all in a row", row.count(7), 60000);
    }

    private void others() {
        s.says("Promise 11", "NONE for others.");
        OrderKeeper k = Dues.withTasks(5, 6);
        k.tie(1, 0);
        for (int what : new int[] {
            -1, -2, -8, 8, 9, 15, 16, 32, 64, 256, 65536, Integer.MAX_VALUE, Integer.MIN_VALUE, Integer.MIN_VALUE + 7}) {
            s.due("count(" + what + ")", k.count(what), -1);
        }
    }
}
