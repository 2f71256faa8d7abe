/** Edges of early and late times: promises 15 and 16, and what the terms say of them. */
final class TimeEdges {
    private static final String NEXT_OF_ROW = "behind each comes the least critical task to which a tie leads from it whose"
        + " early is its early and weight together,";
    private final Sentences s;

    TimeEdges(Sentences sentences) {
        s = sentences;
    }

    void all() {
        earlyIsZeroWithoutWays();
        earlyIsTheGreatest();
        earlyOfTheLongestRow();
        allIsTheGreatest();
        lateAtTheEdges();
        criticalToTheUnit();
        rowBeginsAtZero();
        rowGoesByTies();
        rowGoesByTheLeast();
        rowEnds();
        rowThroughZeros();
        timesOfATask();
        timesOfNoTask();
        noSuchTime();
        criticalFromFirstToLast();
        criticalOfNone();
    }

    /** All 60 tasks, the greatest weight each, from the last to the first. */
    private static OrderKeeper longestRow() {
        OrderKeeper k = new OrderKeeper();
        for (int t = 0; t < 60; t++) {
            k.task(1000);
        }
        for (int t = 59; t > 0; t--) {
            k.tie(t, t - 1);
        }
        return k;
    }

    private void earlyIsZeroWithoutWays() {
        s.says("Terms", "without its own (0 without ways);");
        OrderKeeper k = Dues.withTasks(1000, 0, 7);
        s.due("early without ties", Dues.times(k, 0), "0 0 0");
        k.tie(2, 1);
        s.due("early", Dues.times(k, 0), "0 7 0");
        k.weigh(1, 1000);
        s.due("early, whatever its own weight is", Dues.times(k, 0), "0 7 0");
        k.untie(2, 1);
        s.due("early without ties again", Dues.times(k, 0), "0 0 0");
    }

    private void earlyIsTheGreatest() {
        s.says("Terms", "EARLY is of a task the greatest sum of weights of tasks on a way to it,");
        OrderKeeper k = Dues.withTasks(4, 2, 3, 6, 1);
        k.tie(0, 4);
        k.tie(1, 2);
        k.tie(2, 4);
        k.tie(1, 4);
        s.due("time(4, 0): 2 and 3 are more than 4", k.time(4, 0), 5);
        k.tie(3, 4);
        s.due("time(4, 0): 6 is more", k.time(4, 0), 6);
        k.weigh(3, 0);
        k.weigh(0, 1000);
        s.due("time(4, 0): 1000 is more", k.time(4, 0), 1000);
        k.undo();
        k.undo();
        s.due("time(4, 0) as it was", k.time(4, 0), 6);
    }

    private void earlyOfTheLongestRow() {
        s.says("Terms", "EARLY is of a task the greatest sum of weights of tasks on a way to it, without its own");
        OrderKeeper k = longestRow();
        for (int t = 0; t < 60; t++) {
            s.due("time(" + t + ", 0)", k.time(t, 0), 1000 * (59 - t));
        }
        OrderKeeper zeros = Dues.withManyTasks(3);
        zeros.tie(0, 1);
        zeros.tie(1, 2);
        s.due("early of zeros", Dues.times(zeros, 0), "0 0 0");
    }

    private void allIsTheGreatest() {
        s.says("Terms", "ALL is the greatest sum of early and weight.");
        OrderKeeper k = Dues.withTasks(2, 9, 3, 1);
        s.due("count(7) of loose tasks", k.count(7), 9);
        k.tie(0, 2);
        k.tie(2, 3);
        s.due("count(7): a row of 6 is less than 9", k.count(7), 9);
        k.weigh(0, 5);
        s.due("count(7): a row of 9 is as much", k.count(7), 9);
        k.weigh(0, 6);
        s.due("count(7): a row of 10 is more", k.count(7), 10);
        s.due("count(7) of the longest row", longestRow().count(7), 60000);
        s.due("count(7) of zeros", Dues.withManyTasks(60).count(7), 0);
        s.due("count(7) without tasks", new OrderKeeper().count(7), 0);
    }

    private void lateAtTheEdges() {
        s.says("Terms", "LATE is all less the greatest sum of weights on a way from it, with its own.");
        OrderKeeper one = Dues.withTasks(1000);
        s.due("late of one alone", Dues.times(one, 1), "0");
        OrderKeeper k = Dues.withTasks(0, 10, 3, 4, 2);
        s.due("late without ties", Dues.times(k, 1), "10 0 7 6 8");
        k.tie(2, 3);
        k.tie(2, 4);
        s.due("late with two ways on", Dues.times(k, 1), "10 0 3 6 8");
        k.tie(2, 0);
        s.due("late before a zero", Dues.times(k, 1), "10 0 3 6 8");
        OrderKeeper row = longestRow();
        s.due("time(59, 1) of the longest row", row.time(59, 1), 0);
        s.due("time(0, 1) of the longest row", row.time(0, 1), 59000);
        s.due("late of zeros", Dues.times(Dues.withManyTasks(2), 1), "0 0");
    }

    private void criticalToTheUnit() {
        s.says("Terms", "CRITICAL are tasks whose early is their late.");
        OrderKeeper k = Dues.withTasks(5, 6, 11);
        k.tie(0, 1);
        s.due("critical, as long as the other", Dues.times(k, 4), "1 1 1");
        k.weigh(2, 12);
        s.due("critical, one less than the other", Dues.times(k, 4), "0 0 1");
        k.weigh(2, 10);
        s.due("critical, one more than the other", Dues.times(k, 4), "1 1 0");
        s.due("critical of zeros", Dues.times(Dues.withManyTasks(3), 4), "1 1 1");
        OrderKeeper zero = Dues.withTasks(7, 0, 0);
        zero.tie(0, 1);
        s.due("critical of a zero at the end, and of one alone", Dues.times(zero, 4), "1 1 0");
    }

    private void rowBeginsAtZero() {
        s.says("Terms", "THE CRITICAL ROW begins with the least critical task whose early is 0;");
        OrderKeeper k = Dues.withTasks(4, 5, 2, 3, 2);
        // 0 and 1 are less than 2 and 3, and critical too, but their early is not 0.
        k.tie(3, 1);
        k.tie(2, 4);
        k.tie(4, 0);
        s.due("critical", Dues.times(k, 4), "1 1 1 1 1");
        s.due("row from 2", Dues.criticalRow(k), "2 4 0");
        k.weigh(0, 3);
        s.due("row from 3", Dues.criticalRow(k), "3 1");
        OrderKeeper one = Dues.withTasks(0);
        s.due("row of one", Dues.criticalRow(one), "0");
        OrderKeeper last = longestRow();
        s.due("critical(0) of the longest row", last.critical(0), 59);
    }

    private void rowGoesByTies() {
        s.says("Terms", NEXT_OF_ROW);
        OrderKeeper k = Dues.withTasks(5, 5, 5, 5);
        // 2 begins when 0 ends, but has no tie from it.
        k.tie(0, 3);
        k.tie(1, 2);
        s.due("row", Dues.criticalRow(k), "0 3");
        OrderKeeper gap = Dues.withTasks(2, 3, 1);
        // 1 is critical and has a tie from 0, but begins later than 0 ends.
        gap.tie(0, 1);
        gap.tie(0, 2);
        gap.tie(2, 1);
        s.due("row without a gap", Dues.criticalRow(gap), "0 2 1");
        OrderKeeper slack = Dues.withTasks(2, 3, 4);
        // 1 begins when 0 ends and has a tie from it, but is not critical.
        slack.tie(0, 1);
        slack.tie(0, 2);
        s.due("row past one with time left", Dues.criticalRow(slack), "0 2");
    }

    private void rowGoesByTheLeast() {
        s.says("Terms", NEXT_OF_ROW);
        OrderKeeper k = Dues.withTasks(4, 4, 4, 2);
        k.tie(3, 2);
        k.tie(3, 1);
        k.tie(3, 0);
        s.due("row", Dues.criticalRow(k), "3 0");
        k.untie(3, 0);
        s.due("row without 0", Dues.criticalRow(k), "3 1");
        k.weigh(1, 3);
        s.due("row without 1", Dues.criticalRow(k), "3 2");
    }

    private void rowEnds() {
        s.says("Terms", "as long as there is one.");
        OrderKeeper k = Dues.withTasks(3, 2);
        s.due("critical(0)", k.critical(0), 0);
        s.due("critical(1) without ties", k.critical(1), -1);
        k.tie(0, 1);
        s.due("critical(1)", k.critical(1), 1);
        s.due("critical(2)", k.critical(2), -1);
        k.undo();
        s.due("critical(1) taken back", k.critical(1), -1);
    }

    private void rowThroughZeros() {
        s.says("Terms", "as long as there is one.");
        OrderKeeper k = Dues.withManyTasks(3);
        k.tie(0, 2);
        k.tie(2, 1);
        s.due("row through all zeros", Dues.criticalRow(k), "0 2 1");
        OrderKeeper early = Dues.withManyTasks(3);
        // The least of all begins the row, though ties lead to it, and none leads on.
        early.tie(2, 1);
        early.tie(1, 0);
        s.due("row of zeros that ends at once", Dues.criticalRow(early), "0");
        OrderKeeper end = Dues.withTasks(0, 7, 0);
        end.tie(0, 1);
        end.tie(1, 2);
        s.due("row with zeros at both ends", Dues.criticalRow(end), "0 1 2");
    }

    private void timesOfATask() {
        s.says("Promise 15",
            "Early (what 0), late (1), tail (2), weight (3), whether it is critical (4: 1, 0) of a task;");
        OrderKeeper k = Dues.withTasks(1000, 0, 1);
        k.tie(0, 1);
        s.due("early", Dues.times(k, 0), "0 1000 0");
        s.due("late", Dues.times(k, 1), "0 1000 999");
        s.due("tail", Dues.times(k, 2), "1000 0 1");
        s.due("weight", Dues.times(k, 3), "1000 0 1");
        s.due("critical", Dues.times(k, 4), "1 1 0");
        OrderKeeper turned = Dues.withTasks(2, 3, 4);
        turned.tie(1, 2);
        turned.tie(2, 0);
        s.due("time(1, 2) of a row that is not as the numbers are", turned.time(1, 2), 9);
        s.due("tail of it", Dues.times(turned, 2), "2 9 6");
        s.due("early of it", Dues.times(turned, 0), "7 0 3");
        OrderKeeper row = longestRow();
        s.due("time(59, 2)", row.time(59, 2), 60000);
        s.due("time(0, 2)", row.time(0, 2), 1000);
        s.due("time(0, 0)", row.time(0, 0), 59000);
        s.due("time(0, 4)", row.time(0, 4), 1);
    }

    private void timesOfNoTask() {
        s.says("Promise 15", "NONE when there is none such.");
        OrderKeeper k = Dues.withTasks(5, 6);
        k.tie(1, 0);
        for (int x : Dues.noTasks(2)) {
            for (int what = 0; what <= 4; what++) {
                s.due("time(" + x + ", " + what + ")", k.time(x, what), -1);
            }
        }
        s.due("time(60, 0) of 60", Dues.withManyTasks(60).time(60, 0), -1);
        s.due("time(0, 3) of none", new OrderKeeper().time(0, 3), -1);
    }

    private void noSuchTime() {
        s.says("Promise 15", "NONE when there is none such.");
        OrderKeeper k = Dues.withTasks(5, 6);
        for (int what : new int[] {
            -1, -5, 5, 6, 8, 16, 64, 256, 65536, Integer.MAX_VALUE, Integer.MIN_VALUE, Integer.MIN_VALUE + 3}) {
            s.due("time(0, " + what + ")", k.time(0, what), -1);
            s.due("time(2, " + what + ")", k.time(2, what), -1);
        }
    }

    private void criticalFromFirstToLast() {
        s.says("Promise 16", "Task k of the critical row;");
        OrderKeeper k = longestRow();
        for (int i = 0; i < 60; i++) {
            s.due("critical(" + i + ")", k.critical(i), 59 - i);
        }
        s.due("critical(60)", k.critical(60), -1);
    }

    private void criticalOfNone() {
        s.says("Promise 16", "NONE when there is none such.");
        s.due("critical(0) without tasks", new OrderKeeper().critical(0), -1);
        OrderKeeper k = Dues.withTasks(2, 3, 1);
        k.tie(0, 1);
        s.due("critical(1)", k.critical(1), 1);
        for (int i : Dues.noTasks(2)) {
            s.due("critical(" + i + ")", k.critical(i), -1);
        }
    }
}
