/** Edges of the way back: promise 8. */
final class UndoEdges {
    private static final String LATEST =
        "Takes back what the latest weigh(), tie(), untie() or commit() did that answered 1 or more";
    private final Sentences s;

    UndoEdges(Sentences sentences) {
        s = sentences;
    }

    void all() {
        theLatestOfEachKind();
        aFullBundle();
        whatDidNothing();
        notTakenBackTwice();
        newDoingsAfterOnesTakenBack();
        asBefore();
        nothingElseComesBack();
        noneToTakeBack();
        sixtyFour();
        sixtyFive();
        theWrapAround();
        theWrapAroundWithWaysBack();
    }

    private void theLatestOfEachKind() {
        s.says("Promise 8", LATEST);
        OrderKeeper k = Dues.withTasks(1000, 0, 5);
        k.weigh(0, 0);
        k.undo();
        s.due("weights, weigh taken back", Dues.times(k, 3), "1000 0 5");
        k.weigh(1, 1000);
        k.undo();
        s.due("weights, weigh taken back", Dues.times(k, 3), "1000 0 5");
        k.tie(2, 0);
        k.undo();
        s.due("ties, tie taken back", Dues.ties(k), "");
        s.due("order, tie taken back", Dues.order(k), "0 1 2");
        k.tie(2, 0);
        k.untie(2, 0);
        k.undo();
        s.due("ties, untie taken back", Dues.ties(k), " 2>0");
        s.due("order, untie taken back", Dues.order(k), "2 1 0");
        k.gather(1, 2);
        k.gather(0, 1);
        k.gather(0, 2);
        k.commit();
        s.due("a commit that made a ring is none", k.undo(), 1);
        s.due("so the tie is taken back", Dues.ties(k), "");
        k.gather(2, 1);
        k.gather(1, 0);
        k.commit();
        k.undo();
        s.due("ties, commit taken back", Dues.ties(k), "");
        s.due("order, commit taken back", Dues.order(k), "0 1 2");
    }

    private void aFullBundle() {
        s.says("Promise 8", LATEST);
        OrderKeeper k = Dues.withManyTasks(20);
        k.tie(19, 0);
        for (int i = 0; i < 100; i++) {
            k.gather(10 + i / 10, i % 10);
        }
        s.due("commit()", k.commit(), 99);
        s.due("count(3): one doing", k.count(3), 2);
        s.due("undo()", k.undo(), 1);
        s.due("count(1): all its ties at once", k.count(1), 1);
        s.due("tied(19, 0) was there", k.tied(19, 0), 1);
        s.due("order", Dues.order(k), "19 1 2 3 4 5 6 7 8 9 10 11 12 13 14 15 16 17 18 0");
    }

    private void whatDidNothing() {
        s.says("Promise 8", "that answered 1 or more");
        OrderKeeper k = Dues.withTasks(1, 2, 3);
        k.weigh(0, 9);
        s.due("weigh", k.weigh(0, 1001) + k.weigh(3, 1), 0);
        s.due("count(3)", k.count(3), 1);
        k.tie(0, 1);
        s.due("tie", k.tie(0, 1), 0);
        s.due("tie", k.tie(1, 0), -2);
        s.due("tie", k.tie(0, 3), -1);
        s.due("count(3)", k.count(3), 2);
        s.due("untie", k.untie(1, 2), 0);
        s.due("count(3)", k.count(3), 2);
        s.due("commit", k.commit(), 0);
        k.gather(0, 1);
        s.due("commit", k.commit(), 0);
        k.gather(1, 2);
        k.gather(2, 0);
        s.due("commit", k.commit(), -2);
        s.due("count(3)", k.count(3), 2);
        s.due("gather", k.gather(1, 2), 1);
        s.due("plan", k.plan(1), 14);
        s.due("count(3)", k.count(3), 2);
        s.due("undo()", k.undo(), 1);
        s.due("ties", Dues.ties(k), "");
        s.due("weights", Dues.times(k, 3), "9 2 3");
    }

    private void notTakenBackTwice() {
        s.says("Promise 8", "and was not taken back:");
        OrderKeeper k = Dues.withTasks(0);
        k.weigh(0, 1);
        k.weigh(0, 2);
        k.weigh(0, 3);
        s.due("undo()", k.undo(), 1);
        s.due("weight", k.time(0, 3), 2);
        s.due("undo()", k.undo(), 1);
        s.due("weight", k.time(0, 3), 1);
        s.due("undo()", k.undo(), 1);
        s.due("weight", k.time(0, 3), 0);
        s.due("undo()", k.undo(), 0);
        s.due("weight", k.time(0, 3), 0);
    }

    private void newDoingsAfterOnesTakenBack() {
        s.says("Promise 8", "and was not taken back:");
        OrderKeeper k = Dues.withTasks(0);
        k.weigh(0, 1);
        k.weigh(0, 2);
        k.undo();
        k.weigh(0, 3);
        k.weigh(0, 4);
        s.due("count(3)", k.count(3), 3);
        k.undo();
        s.due("weight", k.time(0, 3), 3);
        k.undo();
        s.due("weight, without what was taken back", k.time(0, 3), 1);
        k.undo();
        s.due("weight", k.time(0, 3), 0);
        s.due("undo()", k.undo(), 0);
    }

    private void asBefore() {
        s.says("Promise 8", "weights, ties and places are as before it: 1;");
        OrderKeeper k = Dues.withTasks(3, 1, 4, 1);
        k.tie(3, 0);
        String order = Dues.order(k);
        String ties = Dues.ties(k);
        // The tie goes back and forth: the order comes back without being mended anew.
        k.untie(3, 0);
        k.tie(0, 3);
        s.due("order in between", Dues.order(k), "0 1 2 3");
        s.due("undo()", k.undo(), 1);
        s.due("undo()", k.undo(), 1);
        s.due("order", Dues.order(k), order);
        s.due("ties", Dues.ties(k), ties);
        s.due("weights", Dues.times(k, 3), "3 1 4 1");
        s.due("count(1)", k.count(1), 1);
        s.due("count(7)", k.count(7), 4);
        s.due("check()", k.check(), 1);
        s.due("tie(0, 3) makes a ring again", k.tie(0, 3), -2);
    }

    private void nothingElseComesBack() {
        s.says("Promise 8", "weights, ties and places are as before it: 1;");
        OrderKeeper k = Dues.withTasks(2, 3);
        k.gather(1, 0);
        k.commit();
        k.tie(0, 1);
        k.plan(1);
        k.gather(0, 1);
        s.due("undo()", k.undo(), 1);
        s.due("the bundle is as it is now", k.count(2), 1);
        s.due("the witness is the latest", Dues.witness(k), "1 0");
        s.due("the plan is the latest", Dues.plan(k), "3/0 0/0");
        s.due("count(0)", k.count(0), 2);
        s.due("what waits can come", k.commit(), 1);
    }

    private void noneToTakeBack() {
        s.says("Promise 8", "0 when there is none");
        s.due("undo() of a new object", new OrderKeeper().undo(), 0);
        OrderKeeper k = Dues.withTasks(1, 2);
        s.due("undo() of tasks", k.undo(), 0);
        s.due("count(0)", k.count(0), 2);
        k.tie(1, 0);
        k.undo();
        String before = Dues.state(k);
        s.due("undo()", k.undo(), 0);
        s.due("undo() again", k.undo(), 0);
        s.due("all is as before", Dues.state(k), before);
        k.gather(1, 0);
        s.due("undo() of a gather", k.undo(), 0);
        s.due("count(2)", k.count(2), 1);
    }

    private void sixtyFour() {
        s.says("Promise 8", "(64 are remembered).");
        OrderKeeper k = Dues.withTasks(0);
        for (int w = 1; w <= 64; w++) {
            k.weigh(0, w);
        }
        s.due("count(3)", k.count(3), 64);
        for (int w = 63; w >= 0; w--) {
            s.due("undo() to " + w, k.undo(), 1);
            s.due("weight", k.time(0, 3), w);
        }
        s.due("undo() of nothing", k.undo(), 0);
        s.due("count(3)", k.count(3), 0);
    }

    private void sixtyFive() {
        s.says("Promise 8", "(64 are remembered).");
        OrderKeeper k = Dues.withManyTasks(2);
        k.tie(1, 0);
        for (int w = 1; w <= 64; w++) {
            k.weigh(0, w);
        }
        s.due("count(3)", k.count(3), 64);
        for (int i = 0; i < 64; i++) {
            s.due("undo() " + i, k.undo(), 1);
        }
        s.due("weight of the first", k.time(0, 3), 0);
        s.due("undo() of the oldest", k.undo(), 0);
        s.due("the oldest stays", k.tied(1, 0), 1);
        s.due("order", Dues.order(k), "1 0");
    }

    private void theWrapAround() {
        s.says("Promise 8", "(64 are remembered).");
        // Once round, just short of it and just beyond, and twice.
        for (int doings : new int[] {63, 64, 65, 127, 128, 129, 200}) {
            OrderKeeper k = Dues.withTasks(0);
            for (int w = 1; w <= doings; w++) {
                k.weigh(0, w);
            }
            int known = Math.min(doings, 64);
            s.due("count(3) of " + doings, k.count(3), known);
            for (int i = 1; i <= known; i++) {
                k.undo();
                s.due("weight " + i + " back from " + doings, k.time(0, 3), doings - i);
            }
            s.due("undo() once more of " + doings, k.undo(), 0);
        }
    }

    private void theWrapAroundWithWaysBack() {
        s.says("Promise 8", "(64 are remembered).");
        OrderKeeper k = Dues.withTasks(0);
        for (int w = 1; w <= 100; w++) {
            k.weigh(0, w);
        }
        for (int i = 0; i < 40; i++) {
            k.undo();
        }
        s.due("weight", k.time(0, 3), 60);
        s.due("count(3)", k.count(3), 24);
        for (int w = 201; w <= 250; w++) {
            k.weigh(0, w);
        }
        s.due("count(3)", k.count(3), 64);
        for (int i = 0; i < 50; i++) {
            k.undo();
        }
        s.due("weight", k.time(0, 3), 60);
        for (int i = 0; i < 14; i++) {
            s.due("undo() " + i, k.undo(), 1);
        }
        s.due("weight, as far as it goes", k.time(0, 3), 46);
        s.due("undo() once more", k.undo(), 0);
        s.due("weight", k.time(0, 3), 46);
    }
}
