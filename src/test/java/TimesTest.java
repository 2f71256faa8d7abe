/** Promises 15 and 16: time, critical. */
public final class TimesTest {
    private static final Dues D = new Dues("TimesTest");

    public static void main(String[] args) {
        times();
        wrongInputs();
        criticalRow();
        rowIsNotAnyWay();
        zeroWeights();
        D.end();
    }

    private static OrderKeeper sample() {
        OrderKeeper k = Dues.withTasks(2, 3, 4, 1, 5);
        k.tie(3, 0);
        k.tie(0, 1);
        k.tie(0, 2);
        k.tie(3, 2);
        return k;
    }

    private static void times() {
        OrderKeeper k = sample();
        D.due("early", Dues.times(k, 0), "1 3 3 0 0");
        D.due("late", Dues.times(k, 1), "1 4 3 0 2");
        D.due("tail", Dues.times(k, 2), "6 3 4 7 5");
        D.due("weight", Dues.times(k, 3), "2 3 4 1 5");
        D.due("critical", Dues.times(k, 4), "1 0 1 1 0");
        k.weigh(4, 100);
        D.due("late with another weight", Dues.times(k, 1), "94 97 96 93 0");
        D.due("critical with another weight", Dues.times(k, 4), "0 0 0 0 1");
        k.untie(3, 0);
        D.due("early without a tie", Dues.times(k, 0), "0 2 2 0 0");
        k.undo();
        k.undo();
        D.due("early taken back", Dues.times(k, 0), "1 3 3 0 0");
    }

    private static void wrongInputs() {
        OrderKeeper k = sample();
        D.due("time(0, 5)", k.time(0, 5), -1);
        D.due("time(0, -1)", k.time(0, -1), -1);
        D.due("time(5, 0)", k.time(5, 0), -1);
        D.due("time(-1, 3)", k.time(-1, 3), -1);
        D.due("time(greatest, 0)", k.time(Integer.MAX_VALUE, 0), -1);
        D.due("critical(-1)", k.critical(-1), -1);
        D.due("critical(3)", k.critical(3), -1);
        D.due("critical(5)", k.critical(5), -1);
        D.due("critical(greatest)", k.critical(Integer.MAX_VALUE), -1);
        D.due("critical(least)", k.critical(Integer.MIN_VALUE), -1);
    }

    private static void criticalRow() {
        OrderKeeper k = sample();
        D.due("row", Dues.criticalRow(k), "3 0 2");
        // Now two tasks are critical behind 0: the least comes.
        k.weigh(1, 4);
        D.due("row of the least", Dues.criticalRow(k), "3 0 1");
        k.weigh(4, 7);
        D.due("row from the least", Dues.criticalRow(k), "3 0 1");
        k.weigh(4, 8);
        D.due("row of one", Dues.criticalRow(k), "4");
    }

    private static void rowIsNotAnyWay() {
        // 0 has a tie to the critical 1, whose early is greater than 0's end.
        OrderKeeper k = Dues.withTasks(2, 3, 1);
        k.tie(0, 1);
        k.tie(0, 2);
        k.tie(2, 1);
        D.due("row", Dues.criticalRow(k), "0 2 1");
        // The least of critical tasks has an early that is not 0.
        OrderKeeper back = Dues.withTasks(5, 5);
        back.tie(1, 0);
        D.due("row from the back", Dues.criticalRow(back), "1 0");
        // 1 begins where 0 ends, but is not critical.
        OrderKeeper third = Dues.withTasks(2, 1, 4);
        third.tie(0, 1);
        third.tie(0, 2);
        D.due("row past one that is not critical", Dues.criticalRow(third), "0 2");
    }

    private static void zeroWeights() {
        OrderKeeper k = Dues.withTasks(0, 0, 0);
        k.tie(2, 1);
        D.due("all", k.count(7), 0);
        D.due("critical", Dues.times(k, 4), "1 1 1");
        D.due("row", Dues.criticalRow(k), "0");
        k.tie(1, 0);
        D.due("row begins with the least, and it has no ties on", Dues.criticalRow(k), "0");
        k.undo();
        k.tie(0, 2);
        D.due("row goes on through zeros", Dues.criticalRow(k), "0 2 1");
    }
}
