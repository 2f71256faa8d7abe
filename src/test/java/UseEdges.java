/** How long an object is used, and the constants. */
final class UseEdges {
    private static final int MOST_CALLS = 512;
    private final Sentences s;

    UseEdges(Sentences sentences) {
        s = sentences;
    }

    void all() {
        theLastCallOfAll();
        aFullObjectToTheLastCall();
        callsBeyondTheLast();
        noneIsForNothing();
        refusedCallsDoNothing();
        ringIsForARing();
    }

    /** Two tasks, 0 before 1 in places, and all calls used up but for the last ones. */
    private static OrderKeeper usedBut(int left) {
        OrderKeeper k = Dues.withTasks(3, 4);
        for (int i = 2; i < MOST_CALLS - left; i++) {
            k.weigh(0, i);
        }
        return k;
    }

    private void theLastCallOfAll() {
        s.says("What it is", "An object is used for at most 512 calls after it has been made;");
        s.due("call 512, task(5)", usedBut(1).task(5), 2);
        s.due("call 512, weigh(1, 1000)", usedBut(1).weigh(1, 1000), 1);
        s.due("call 512, tie(1, 0)", usedBut(1).tie(1, 0), 1);
        s.due("call 512, tie(1, 1)", usedBut(1).tie(1, 1), -2);
        s.due("call 512, untie(1, 0)", usedBut(1).untie(1, 0), 0);
        s.due("call 512, gather(1, 0)", usedBut(1).gather(1, 0), 1);
        s.due("call 512, commit()", usedBut(1).commit(), 0);
        s.due("call 512, undo()", usedBut(1).undo(), 1);
        s.due("call 512, place(1)", usedBut(1).place(1), 1);
        s.due("call 512, at(1)", usedBut(1).at(1), 1);
        s.due("call 512, count(3)", usedBut(1).count(3), 64);
        s.due("call 512, reaches(0, 1)", usedBut(1).reaches(0, 1), 0);
        s.due("call 512, tied(0, 1)", usedBut(1).tied(0, 1), 0);
        s.due("call 512, witness(0)", usedBut(1).witness(0), -1);
        s.due("call 512, time(0, 3)", usedBut(1).time(0, 3), 510);
        s.due("call 512, critical(0)", usedBut(1).critical(0), 0);
        s.due("call 512, plan(1)", usedBut(1).plan(1), 514);
        s.due("call 512, planned(0, 0)", usedBut(1).planned(0, 0), -1);
        s.due("call 512, check()", usedBut(1).check(), 1);
    }

    private void aFullObjectToTheLastCall() {
        s.says("What it is", "An object is used for at most 512 calls after it has been made;");
        OrderKeeper k = Dues.withManyTasks(60);
        Dues.tieMany(k, 60, 400);
        for (int i = 460; i < MOST_CALLS - 5; i++) {
            k.gather(59, 0);
        }
        s.due("call 508, count(0)", k.count(0), 60);
        s.due("call 509, count(1)", k.count(1), 400);
        s.due("call 510, count(2)", k.count(2), 47);
        s.due("call 511, plan(8)", k.plan(8), 0);
        s.due("call 512, commit()", k.commit(), -2);
    }

    private void callsBeyondTheLast() {
        s.says("What it is", "what later calls answer is free.");
        // Free is the answer alone: LANGUAGE.md has it that no call ever throws or fails to end.
        OrderKeeper k = usedBut(0);
        String thrown = "nothing";
        try {
            for (int i = 0; i < 3000; i++) {
                everyCall(k, i % 70 - 5, i % 11 - 2);
            }
        } catch (RuntimeException e) {
            thrown = e.toString();
        }
        s.due("thrown by calls beyond the 512th", thrown, "nothing");
    }

    private static void everyCall(OrderKeeper k, int a, int b) {
        k.task(a);
        k.weigh(a, b);
        k.tie(a, b);
        k.untie(b, a);
        k.gather(b, a);
        k.gather(a, b);
        if (a == b) {
            k.commit();
        }
        k.undo();
        k.place(a);
        k.at(a);
        k.count(b);
        k.reaches(a, b);
        k.tied(a, b);
        k.witness(a);
        k.time(a, b);
        k.critical(a);
        k.plan(b);
        k.planned(a, b);
        k.check();
    }

    private void noneIsForNothing() {
        s.says("Terms", "The constants: `NONE = -1`: There is none, or nothing is done.");
        s.due("NONE", OrderKeeper.NONE, -1);
        OrderKeeper k = new OrderKeeper();
        s.due("place(0) when there is none", k.place(0), OrderKeeper.NONE);
        s.due("task(1001)", k.task(1001), OrderKeeper.NONE);
        s.due("count(0): nothing is done", k.count(0), 0);
    }

    private void refusedCallsDoNothing() {
        s.says("Terms", "The constants: `NONE = -1`: There is none, or nothing is done.");
        OrderKeeper k = Dues.withTasks(3, 4, 5);
        k.tie(2, 0);
        k.weigh(1, 7);
        k.tie(0, 2);
        k.gather(1, 0);
        k.plan(2);
        k.tie(0, 1);
        String before = Dues.state(k);
        s.due("task(-1)", k.task(-1), -1);
        s.due("task(1001)", k.task(1001), -1);
        s.due("tie(0, 3)", k.tie(0, 3), -1);
        s.due("tie(-1, 0)", k.tie(-1, 0), -1);
        s.due("gather(0, 3)", k.gather(0, 3), -1);
        s.due("gather(-1, 0)", k.gather(-1, 0), -1);
        s.due("plan(0)", k.plan(0), -1);
        s.due("plan(9)", k.plan(9), -1);
        s.due("all is as before", Dues.state(k), before);
        s.due("undo() has not forgotten", k.undo(), 1);
    }

    private void ringIsForARing() {
        s.says("Terms", "`RING = -2`: It would make a ring.");
        s.due("RING", OrderKeeper.RING, -2);
        OrderKeeper k = Dues.withManyTasks(2);
        s.due("tie(0, 0)", k.tie(0, 0), OrderKeeper.RING);
        k.gather(0, 1);
        k.gather(1, 0);
        s.due("commit()", k.commit(), OrderKeeper.RING);
    }
}
