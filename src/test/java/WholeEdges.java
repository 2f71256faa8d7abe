/** What the document begins and ends with: the class as a whole, and what is free. */
final class WholeEdges {
    private final Sentences s;

    WholeEdges(Sentences sentences) {
        s = sentences;
    }

    void all() {
        anOrderMendedWithEachTie();
        noMoreThanLiesBetween();
        aRingWithTheTie();
        allOrNone();
        theWayBack();
        timesAndPlan();
        objectsShareNothing();
        sameCallsSameAnswers();
        questionsChangeNothing();
    }

    private void anOrderMendedWithEachTie() {
        s.says("What it is", "Tasks that must come before others, kept in an order that is mended with each new tie,");
        OrderKeeper k = Dues.withManyTasks(4);
        k.tie(3, 2);
        s.due("order, 3 before 2", Dues.order(k), "0 1 3 2");
        k.tie(2, 0);
        s.due("order, 2 before 0", Dues.order(k), "3 1 2 0");
        k.tie(0, 1);
        s.due("order, 0 before 1", Dues.order(k), "3 2 0 1");
        s.due("check()", k.check(), 1);
    }

    private void noMoreThanLiesBetween() {
        s.says("What it is", "without looking at more than lies between;");
        // 0 reaches 4 and 2 reaches 6, but neither lies between the places of 2 and 4.
        OrderKeeper k = Dues.withManyTasks(7);
        k.tie(0, 4);
        k.tie(2, 6);
        k.tie(4, 2);
        s.due("order", Dues.order(k), "0 1 4 3 2 5 6");
        s.due("count(5)", k.count(5), 2);
    }

    private void aRingWithTheTie() {
        s.says("What it is", "ties that would close a ring, with that ring;");
        OrderKeeper k = Dues.withManyTasks(3);
        k.tie(0, 1);
        k.tie(1, 2);
        s.due("tie(2, 0)", k.tie(2, 0), -2);
        s.due("witness", Dues.witness(k), "0 1 2");
        s.due("ties", Dues.ties(k), " 0>1 1>2");
    }

    private void allOrNone() {
        s.says("What it is", "ties in bundles, all or none;");
        OrderKeeper k = Dues.withManyTasks(3);
        k.gather(1, 0);
        k.gather(2, 1);
        s.due("commit()", k.commit(), 2);
        s.due("ties, all", Dues.ties(k), " 1>0 2>1");
        s.due("order", Dues.order(k), "2 1 0");
        k.gather(2, 0);
        k.gather(0, 2);
        s.due("commit() of a ring", k.commit(), -2);
        s.due("ties, none more", Dues.ties(k), " 1>0 2>1");
    }

    private void theWayBack() {
        s.says("What it is", "the way back;");
        OrderKeeper k = Dues.withTasks(1, 2);
        k.tie(1, 0);
        k.weigh(0, 9);
        s.due("undo() of weigh()", k.undo(), 1);
        s.due("weights", Dues.times(k, 3), "1 2");
        s.due("undo() of tie()", k.undo(), 1);
        s.due("order", Dues.order(k), "0 1");
        s.due("no more", k.undo(), 0);
    }

    private void timesAndPlan() {
        s.says("What it is", "early and late times, and a plan for some workers.");
        OrderKeeper k = Dues.withTasks(2, 3, 4);
        k.tie(0, 1);
        s.due("early", Dues.times(k, 0), "0 2 0");
        s.due("late", Dues.times(k, 1), "0 2 1");
        s.due("critical row", Dues.criticalRow(k), "0 1");
        s.due("plan(2)", k.plan(2), 5);
        s.due("plan", Dues.plan(k), "0/0 2/0 0/1");
        s.due("plan(1)", k.plan(1), 9);
    }

    private void objectsShareNothing() {
        s.says("Not promised", "How the state is held inside the object is free,");
        OrderKeeper one = Dues.withTasks(1, 2, 3);
        work(one);
        String state = Dues.state(one);
        OrderKeeper other = Dues.withTasks(7, 0, 5, 9, 4);
        s.due("a new object is new", other.count(1) + other.count(2) + other.count(3) + other.count(4), 0);
        other.gather(4, 0);
        other.gather(3, 2);
        other.commit();
        other.tie(2, 3);
        other.gather(1, 1);
        other.plan(3);
        other.undo();
        s.due("the first one is as before", Dues.state(one), state);
        s.due("its undo() is its own", one.undo(), 1);
    }

    /** Something of each kind, so that no part of the state is as it was when new. */
    private static void work(OrderKeeper k) {
        k.tie(2, 0);
        k.gather(0, 1);
        k.commit();
        k.tie(1, 2);
        k.gather(2, 1);
        k.plan(2);
        k.weigh(1, 8);
    }

    private void sameCallsSameAnswers() {
        s.says("Not promised", "Nothing is promised beyond the answers and state changes described above,");
        OrderKeeper one = Dues.withTasks(1, 2, 3);
        OrderKeeper other = Dues.withTasks(1, 2, 3);
        work(one);
        work(other);
        s.due("states after the same calls", Dues.state(other), Dues.state(one));
        s.due("the state", Dues.state(one),
            "counts 3 2 1 3 3 0 0 12, order 2 0 1, weights 1 8 3, ties 0>1 2>0, witness 2 0 1, plan 3/0 4/0 0/0");
    }

    private void questionsChangeNothing() {
        s.says("Not promised", "Nothing is promised beyond the answers and state changes described above,");
        OrderKeeper k = Dues.withTasks(1, 2, 3);
        work(k);
        String state = Dues.state(k);
        int[] numbers = {Integer.MIN_VALUE, -1, 0, 1, 2, 3, 7, 8, 60, 64, Integer.MAX_VALUE};
        for (int a : numbers) {
            for (int b : new int[] {-1, 0, 1, 2, 4, 5}) {
                ask(k, a, b);
            }
            // No more calls than an object is used for, so a new one goes on.
            s.due("state after questions of " + a, Dues.state(k), state);
            k = Dues.withTasks(1, 2, 3);
            work(k);
        }
    }

    private static void ask(OrderKeeper k, int a, int b) {
        k.place(a);
        k.at(a);
        k.count(a);
        k.reaches(a, b);
        k.tied(a, b);
        k.witness(a);
        k.time(a, b);
        k.critical(a);
        k.planned(a, b);
        k.check();
        k.toString();
        k.hashCode();
    }
}
