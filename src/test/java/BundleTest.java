/** Promises 6 and 7: gather, commit. */
public final class BundleTest {
    private static final Dues D = new Dues("BundleTest");

    public static void main(String[] args) {
        gather();
        commit();
        nothingComesWithARing();
        witnessWithThoseBefore();
        tiesThatAreThere();
        theFourHundredth();
        whateverComesFirst();
        D.end();
    }

    private static void gather() {
        OrderKeeper k = Dues.withManyTasks(3);
        D.due("gather(3, 0)", k.gather(3, 0), -1);
        D.due("gather(0, 3)", k.gather(0, 3), -1);
        D.due("gather(-1, 0)", k.gather(-1, 0), -1);
        D.due("gather(0, -1)", k.gather(0, -1), -1);
        for (int i = 1; i <= 100; i++) {
            D.due("gather " + i, k.gather(0, 1), i);
        }
        D.due("gather 101", k.gather(1, 2), -1);
        D.due("count(2)", k.count(2), 100);
        D.due("count(1)", k.count(1), 0);
        D.due("count(3)", k.count(3), 0);
        D.due("tied(0, 1)", k.tied(0, 1), 0);
        k.task(1);
        D.due("the bundle stays with a task", k.count(2), 100);
        D.due("commit()", k.commit(), 1);
        D.due("the bundle is empty", k.count(2), 0);
        D.due("tied(1, 2)", k.tied(1, 2), 0);
        D.due("gather after commit", k.gather(0, 3), 1);
    }

    private static void commit() {
        OrderKeeper k = Dues.withManyTasks(6);
        k.gather(4, 1);
        k.gather(5, 0);
        k.gather(1, 3);
        k.gather(0, 4);
        D.due("commit()", k.commit(), 4);
        // The places tell that the ties came one by one, in the order of gathering.
        D.due("order", Dues.order(k), oneByOne());
        D.due("count(1)", k.count(1), 4);
        D.due("count(2)", k.count(2), 0);
        D.due("count(3)", k.count(3), 1);
        D.due("reaches(5, 3)", k.reaches(5, 3), 1);
        D.due("check()", k.check(), 1);
        D.due("commit() of nothing", k.commit(), 0);
        D.due("count(3)", k.count(3), 1);
        D.due("undo()", k.undo(), 1);
        D.due("order is back", Dues.order(k), "0 1 2 3 4 5");
        D.due("count(1)", k.count(1), 0);
        D.due("the bundle does not come back", k.count(2), 0);
    }

    private static String oneByOne() {
        OrderKeeper k = Dues.withManyTasks(6);
        k.tie(4, 1);
        k.tie(5, 0);
        k.tie(1, 3);
        k.tie(0, 4);
        return Dues.order(k);
    }

    private static void nothingComesWithARing() {
        OrderKeeper k = Dues.withManyTasks(5);
        k.tie(3, 1);
        String order = Dues.order(k);
        k.gather(4, 0);
        k.gather(0, 3);
        k.gather(2, 2);
        k.gather(1, 3);
        D.due("commit()", k.commit(), -2);
        D.due("witness of the first", Dues.witness(k), "2");
        D.due("order", Dues.order(k), order);
        D.due("count(1)", k.count(1), 1);
        D.due("count(2)", k.count(2), 0);
        D.due("count(3)", k.count(3), 1);
        D.due("count(5)", k.count(5), 0);
        D.due("tied(4, 0)", k.tied(4, 0), 0);
        D.due("tied(3, 1)", k.tied(3, 1), 1);
        D.due("commit() then", k.commit(), 0);
        D.due("undo()", k.undo(), 1);
        D.due("tied(3, 1) taken back", k.tied(3, 1), 0);
    }

    private static void witnessWithThoseBefore() {
        OrderKeeper k = Dues.withManyTasks(6);
        k.tie(0, 1);
        k.gather(1, 2);
        k.gather(2, 0);
        // A shorter way, but it comes too late.
        k.gather(0, 2);
        D.due("commit()", k.commit(), -2);
        D.due("witness", Dues.witness(k), "0 1 2");
        k.gather(1, 2);
        k.gather(0, 2);
        k.gather(2, 0);
        D.due("commit() with the shorter", k.commit(), -2);
        D.due("witness with the shorter", Dues.witness(k), "0 2");
    }

    private static void tiesThatAreThere() {
        OrderKeeper k = Dues.withManyTasks(3);
        k.tie(0, 1);
        k.gather(0, 1);
        D.due("commit() of one that is there", k.commit(), 0);
        D.due("count(3)", k.count(3), 1);
        k.gather(0, 1);
        k.gather(1, 2);
        k.gather(1, 2);
        D.due("commit() of one that is new", k.commit(), 1);
        D.due("count(1)", k.count(1), 2);
    }

    private static void theFourHundredth() {
        OrderKeeper k = Dues.withManyTasks(30);
        Dues.tieMany(k, 30, 398);
        k.tie(1, 0);
        k.gather(28, 29);
        k.gather(28, 29);
        k.gather(0, 1);
        D.due("commit() of the 399th", k.commit(), 1);
        D.due("count(1)", k.count(1), 399);
        k.gather(27, 29);
        k.gather(26, 29);
        D.due("count(5) before", k.count(5), 0);
        D.due("commit() of one too many", k.commit(), -1);
        D.due("count(1)", k.count(1), 399);
        D.due("count(2)", k.count(2), 0);
        D.due("tied(27, 29)", k.tied(27, 29), 0);
        D.due("witness stays", Dues.witness(k), "0 1");
        k.gather(27, 29);
        D.due("commit() of the 400th", k.commit(), 1);
        k.gather(0, 1);
        D.due("commit() of one that is there", k.commit(), 0);
        k.gather(29, 27);
        D.due("commit() of a ring when there are 400", k.commit(), -2);
        D.due("witness", Dues.witness(k), "27 29");
    }

    private static void whateverComesFirst() {
        OrderKeeper k = Dues.withManyTasks(30);
        Dues.tieMany(k, 30, 399);
        k.gather(28, 29);
        k.gather(27, 29);
        k.gather(5, 5);
        D.due("too many before a ring", k.commit(), -1);
        D.due("no witness", k.count(4), 0);
        k.gather(28, 29);
        k.gather(5, 5);
        k.gather(27, 29);
        D.due("a ring before too many", k.commit(), -2);
        D.due("witness", Dues.witness(k), "5");
        D.due("count(1)", k.count(1), 399);
    }
}
