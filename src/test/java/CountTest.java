/** Promise 11: count. */
public final class CountTest {
    private static final Dues D = new Dues("CountTest");

    public static void main(String[] args) {
        each();
        movedByTies();
        movedByBundles();
        notNeeded();
        all();
        D.end();
    }

    private static void each() {
        OrderKeeper k = Dues.withTasks(4, 5, 6);
        k.tie(2, 0);
        k.tie(0, 1);
        k.tie(2, 1);
        k.tie(1, 2);
        k.gather(0, 1);
        k.gather(0, 1);
        D.due("count(0)", k.count(0), 3);
        D.due("count(1)", k.count(1), 3);
        D.due("count(2)", k.count(2), 2);
        D.due("count(3)", k.count(3), 3);
        D.due("count(4)", k.count(4), 2);
        D.due("count(5)", k.count(5), 0);
        D.due("count(6)", k.count(6), 1);
        D.due("count(7)", k.count(7), 15);
        D.due("count(8)", k.count(8), -1);
        D.due("count(-1)", k.count(-1), -1);
        D.due("count(greatest)", k.count(Integer.MAX_VALUE), -1);
        D.due("count(least)", k.count(Integer.MIN_VALUE), -1);
    }

    private static void movedByTies() {
        OrderKeeper k = Dues.withManyTasks(5);
        k.tie(4, 0);
        D.due("count(5)", k.count(5), 2);
        k.tie(7, 0);
        D.due("count(5) stays with NONE", k.count(5), 2);
        k.weigh(0, 3);
        k.untie(4, 0);
        k.undo();
        k.task(1);
        k.gather(0, 4);
        D.due("count(5) stays with others", k.count(5), 2);
        k.tie(4, 0);
        D.due("count(5) of a tie that is there", k.count(5), 0);
        k.tie(0, 1);
        D.due("count(5)", k.count(5), 2);
        k.tie(1, 4);
        D.due("count(5) of a ring", k.count(5), 0);
        k.tie(2, 4);
        D.due("order", Dues.order(k), "2 4 0 3 1 5");
        D.due("count(5)", k.count(5), 3);
        k.tie(2, 3);
        D.due("count(5) of a tie that moves none", k.count(5), 0);
        OrderKeeper full = Dues.withManyTasks(31);
        Dues.tieMany(full, 30, 399);
        full.tie(30, 29);
        D.due("count(5) of the 400th", full.count(5), 2);
        full.tie(27, 29);
        D.due("count(5) stays when there are 400", full.count(5), 2);
    }

    private static void movedByBundles() {
        OrderKeeper k = Dues.withManyTasks(4);
        k.gather(1, 0);
        k.gather(2, 1);
        D.due("commit()", k.commit(), 2);
        D.due("order", Dues.order(k), "2 1 0 3");
        D.due("count(5): 1 moved and came back", k.count(5), 2);
        k.gather(3, 3);
        k.commit();
        D.due("count(5) of a ring", k.count(5), 0);
        k.tie(3, 0);
        D.due("count(5)", k.count(5), 2);
        k.commit();
        D.due("count(5) of an empty bundle", k.count(5), 0);
        OrderKeeper full = Dues.withManyTasks(31);
        Dues.tieMany(full, 30, 399);
        full.gather(30, 29);
        D.due("commit()", full.commit(), 1);
        full.gather(28, 29);
        D.due("commit() of one too many", full.commit(), -1);
        D.due("count(5) stays with NONE", full.count(5), 2);
    }

    private static void notNeeded() {
        OrderKeeper k = Dues.withManyTasks(28);
        Dues.tieMany(k, 28, 378);
        D.due("count(1)", k.count(1), 378);
        D.due("count(6)", k.count(6), 378 - 27);
    }

    private static void all() {
        OrderKeeper k = new OrderKeeper();
        D.due("count(7) without tasks", k.count(7), 0);
        for (int t = 0; t < 60; t++) {
            k.task(1000);
        }
        D.due("count(7) without ties", k.count(7), 1000);
        for (int t = 59; t > 0; t--) {
            k.tie(t, t - 1);
        }
        D.due("count(7) of all in a row", k.count(7), 60000);
        k.weigh(30, 1);
        D.due("count(7) with a lesser weight", k.count(7), 59001);
        k.undo();
        D.due("count(7) taken back", k.count(7), 60000);
    }
}
