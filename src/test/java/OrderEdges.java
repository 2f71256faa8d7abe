import java.lang.reflect.Field;

/** Edges of the order and of how it is mended: promise 19, and what the terms say of places. */
final class OrderEdges {
    private final Sentences s;

    OrderEdges(Sentences sentences) {
        s = sentences;
    }

    void all() {
        tiesLeadToGreaterPlaces();
        whenTheOrderIsMended();
        thoseThatReach();
        thoseThatReachKeepTheirOrder();
        thoseThatAreReached();
        thoseThatAreReachedKeepTheirOrder();
        thePlacesTheyHad();
        fromTheLastPlaceToTheFirst();
        nothingElseMovesAPlace();
        undoMovesPlaces();
        checkIsOneAtTheEdges();
        checkWouldTellZero();
    }

    private void tiesLeadToGreaterPlaces() {
        s.says("Terms", "All ties lead to greater places.");
        OrderKeeper k = Dues.withManyTasks(60);
        for (int t = 59; t > 0; t--) {
            k.tie(t, t - 1);
        }
        for (int t = 59; t > 0; t--) {
            s.due("place(" + (t - 1) + ") is greater", k.place(t - 1) > k.place(t), true);
        }
        OrderKeeper mixed = Dues.withManyTasks(6);
        int[][] ties = {{5, 0}, {0, 3}, {4, 5}, {3, 1}, {2, 4}};
        for (int[] tie : ties) {
            mixed.tie(tie[0], tie[1]);
            for (int[] each : ties) {
                boolean leadsOn = mixed.place(each[0]) < mixed.place(each[1]);
                boolean there = mixed.tied(each[0], each[1]) > 0;
                s.due(each[0] + ">" + each[1] + " leads on", leadsOn || !there, true);
            }
        }
    }

    private void whenTheOrderIsMended() {
        s.says("Terms", "When a tie from x to y comes and y's place is less than x's:");
        OrderKeeper k = Dues.withManyTasks(3);
        k.tie(0, 1);
        s.due("order, the next place is greater", Dues.order(k), "0 1 2");
        s.due("count(5)", k.count(5), 0);
        k.tie(1, 2);
        s.due("order, still", Dues.order(k), "0 1 2");
        OrderKeeper back = Dues.withManyTasks(3);
        back.tie(2, 1);
        s.due("order, the place before is less", Dues.order(back), "0 2 1");
        s.due("count(5)", back.count(5), 2);
        // Places count here, not numbers: 2 stands before 1 by now.
        back.untie(2, 1);
        back.tie(2, 1);
        s.due("order, the places are right already", Dues.order(back), "0 2 1");
        back.untie(2, 1);
        back.tie(1, 2);
        s.due("order, the greater number has the lesser place", Dues.order(back), "0 1 2");
    }

    private void thoseThatReach() {
        s.says("Terms", "all tasks that reach x and have no lesser place than y, in their order, and then");
        OrderKeeper k = Dues.withManyTasks(6);
        // 0 stands just before y, which is 1, and 2 just behind it.
        k.tie(0, 4);
        k.tie(2, 3);
        k.tie(3, 4);
        s.due("tie(4, 1)", k.tie(4, 1), 1);
        s.due("order", Dues.order(k), "0 2 3 4 1 5");
        s.due("count(5)", k.count(5), 4);
    }

    private void thoseThatReachKeepTheirOrder() {
        s.says("Terms", "all tasks that reach x and have no lesser place than y, in their order, and then");
        OrderKeeper k = Dues.withManyTasks(5);
        k.tie(3, 2);
        k.untie(3, 2);
        k.tie(2, 4);
        k.tie(3, 4);
        s.due("order before", Dues.order(k), "0 1 3 2 4");
        k.tie(4, 1);
        s.due("order", Dues.order(k), "0 3 2 4 1");
        s.due("count(5)", k.count(5), 4);
    }

    private void thoseThatAreReached() {
        s.says("Terms", "all that y reaches and have no greater place than x, in theirs,");
        OrderKeeper k = Dues.withManyTasks(6);
        // 5 stands just behind x, which is 4, and 3 just before it.
        k.tie(1, 2);
        k.tie(2, 3);
        k.tie(1, 5);
        s.due("tie(4, 1)", k.tie(4, 1), 1);
        s.due("order", Dues.order(k), "0 4 1 2 3 5");
        s.due("count(5)", k.count(5), 4);
    }

    private void thoseThatAreReachedKeepTheirOrder() {
        s.says("Terms", "all that y reaches and have no greater place than x, in theirs,");
        OrderKeeper k = Dues.withManyTasks(6);
        k.tie(3, 2);
        k.untie(3, 2);
        k.tie(1, 2);
        k.tie(1, 3);
        s.due("order before", Dues.order(k), "0 1 3 2 4 5");
        k.tie(4, 1);
        s.due("order", Dues.order(k), "0 4 1 3 2 5");
        s.due("count(5)", k.count(5), 4);
    }

    private void thePlacesTheyHad() {
        s.says("Terms", "get the places that all of these had, the least ones first.");
        OrderKeeper k = Dues.withManyTasks(7);
        // 2 and 5 lie between, but have nothing to do with it.
        k.tie(1, 3);
        k.tie(4, 6);
        s.due("tie(6, 1)", k.tie(6, 1), 1);
        s.due("order", Dues.order(k), "0 4 2 6 1 5 3");
        s.due("count(5)", k.count(5), 4);
        OrderKeeper some = Dues.withManyTasks(3);
        some.tie(1, 2);
        some.tie(2, 0);
        s.due("order", Dues.order(some), "1 2 0");
        some.untie(1, 2);
        some.untie(2, 0);
        some.tie(0, 1);
        s.due("order of three", Dues.order(some), "0 2 1");
        s.due("count(5)", some.count(5), 2);
    }

    private void fromTheLastPlaceToTheFirst() {
        s.says("Terms", "get the places that all of these had, the least ones first.");
        OrderKeeper k = Dues.withManyTasks(60);
        s.due("tie(59, 0)", k.tie(59, 0), 1);
        s.due("count(5)", k.count(5), 2);
        s.due("at(0)", k.at(0), 59);
        s.due("at(59)", k.at(59), 0);
        for (int p = 1; p < 59; p++) {
            s.due("at(" + p + ")", k.at(p), p);
        }
        OrderKeeper all = Dues.withManyTasks(60);
        for (int t = 0; t < 29; t++) {
            all.tie(t, t + 1);
            all.tie(t + 30, t + 31);
        }
        s.due("tie(59, 0) of two rows", all.tie(59, 0), 1);
        s.due("count(5)", all.count(5), 60);
        for (int p = 0; p < 60; p++) {
            s.due("at(" + p + ") of two rows", all.at(p), (p + 30) % 60);
        }
    }

    private void nothingElseMovesAPlace() {
        s.says("Terms", "Nothing else moves a place (but for undo).");
        OrderKeeper k = Dues.withManyTasks(5);
        k.tie(4, 0);
        k.tie(0, 2);
        String order = "4 1 0 3 2";
        s.due("order", Dues.order(k), order);
        k.weigh(4, 1000);
        k.tie(4, 0);
        k.tie(2, 4);
        k.tie(1, 1);
        k.tie(5, 0);
        k.gather(3, 1);
        s.due("order after calls that tie nothing", Dues.order(k), order);
        k.gather(2, 4);
        k.commit();
        s.due("order after a bundle that did not come", Dues.order(k), order);
        k.untie(4, 0);
        k.untie(0, 2);
        s.due("order without ties", Dues.order(k), order);
        k.plan(8);
        k.count(6);
        k.critical(4);
        k.check();
        k.commit();
        s.due("order after questions", Dues.order(k), order);
        k.task(0);
        s.due("order with one more", Dues.order(k), order + " 5");
        k.undo();
        s.due("order after an undo of nothing", Dues.order(k), order + " 5");
    }

    private void undoMovesPlaces() {
        s.says("Terms", "(but for undo)");
        OrderKeeper k = Dues.withManyTasks(4);
        k.tie(3, 0);
        k.untie(3, 0);
        k.undo();
        s.due("order, untie taken back", Dues.order(k), "3 1 2 0");
        k.undo();
        s.due("order, tie taken back", Dues.order(k), "0 1 2 3");
    }

    private void checkIsOneAtTheEdges() {
        s.says("Promise 19", "Whether all ties lead to greater places, and each place has one task: 1;");
        s.due("check() without tasks", new OrderKeeper().check(), 1);
        s.due("check() of one task", Dues.withTasks(0).check(), 1);
        OrderKeeper full = Dues.withManyTies(400);
        s.due("check() of 400 ties", full.check(), 1);
        full.tie(26, 25);
        full.tie(28, 0);
        full.gather(26, 25);
        full.commit();
        s.due("check() after refused ties", full.check(), 1);
        for (int i = 0; i < 64; i++) {
            full.undo();
        }
        s.due("check() as far back as it goes", full.check(), 1);
        OrderKeeper row = Dues.withManyTasks(60);
        for (int t = 59; t > 0; t--) {
            row.tie(t, t - 1);
            s.due("check() of a row from " + t, row.check(), 1);
        }
        row.gather(0, 59);
        row.commit();
        s.due("check() after a ring", row.check(), 1);
    }

    /** No call can break the order, so this one reaches inside; it can't where the inside is another. */
    private void checkWouldTellZero() {
        s.says("Promise 19", "it would tell 0.");
        try {
            OrderKeeper back = Dues.withManyTasks(2);
            back.tie(1, 0);
            swap(row(back, "placeOf"), 0, 1);
            swap(row(back, "taskAt"), 0, 1);
            s.due("check() when a tie to the first task leads back", back.check(), 0);
            OrderKeeper k = Dues.withManyTasks(3);
            k.tie(0, 1);
            int[] placeOf = row(k, "placeOf");
            int[] taskAt = row(k, "taskAt");
            swap(placeOf, 0, 1);
            swap(taskAt, 0, 1);
            s.due("check() when a tie leads to a lesser place", k.check(), 0);
            swap(placeOf, 0, 1);
            swap(taskAt, 0, 1);
            s.due("check() when it is mended", k.check(), 1);
            placeOf[2] = 1;
            s.due("check() when a place has two tasks", k.check(), 0);
            placeOf[2] = 3;
            taskAt[3] = 2;
            s.due("check() when a place is beyond the last", k.check(), 0);
            placeOf[2] = 2;
            s.due("check() when it is mended again", k.check(), 1);
            placeOf[0] = -1;
            s.due("check() when a place is before the first", k.check(), 0);
            placeOf[0] = 2;
            s.due("check() when the first task has another's place", k.check(), 0);
        } catch (ReflectiveOperationException e) {
            s.due("check() of an order that can't be broken from here", Dues.withManyTasks(3).check(), 1);
        }
    }

    private static int[] row(OrderKeeper keeper, String name) throws ReflectiveOperationException {
        Field net = OrderKeeper.class.getDeclaredField("net");
        net.setAccessible(true);
        Field row = net.getType().getDeclaredField(name);
        row.setAccessible(true);
        return (int[]) row.get(net.get(keeper));
    }

    private static void swap(int[] row, int i, int j) {
        int kept = row[i];
        row[i] = row[j];
        row[j] = kept;
    }
}
