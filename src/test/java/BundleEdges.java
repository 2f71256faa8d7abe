/** Edges of bundles: promises 6 and 7, and what the terms say of them. */
final class BundleEdges {
    private static final String ALL_OR_NONE = "when one would make a ring, or would be more than the 400th, nothing of"
        + " the bundle comes, and places are as they were before.";
    private final Sentences s;

    BundleEdges(Sentences sentences) {
        s = sentences;
    }

    void all() {
        aHundredWait();
        oneByOneAsGathered();
        thoseThatAreThere();
        aRingFirstOrLast();
        upToTheFourHundredth();
        moreThanTheFourHundredth();
        gatherTellsHowMany();
        gatherOfNoTasks();
        gatherOfOneTooMany();
        emptyWhateverIsAnswered();
        howManyCame();
        witnessOfTheFirst();
        witnessWithThoseBefore();
        whateverComesFirst();
        noneLeavesAllAsItWas();
    }

    /** Ties from greater tasks to lesser ones, each new: 15 tasks can have 105. */
    private static void gatherMany(OrderKeeper k, int many) {
        int left = many;
        for (int x = 1; x < 15; x++) {
            for (int y = 0; y < x && left > 0; y++) {
                k.gather(x, y);
                left--;
            }
        }
    }

    private void aHundredWait() {
        s.says("Terms", "A BUNDLE: ties that wait, at most 100.");
        OrderKeeper k = Dues.withManyTasks(15);
        gatherMany(k, 100);
        s.due("count(2)", k.count(2), 100);
        s.due("one more", k.gather(14, 13), -1);
        s.due("count(2) then", k.count(2), 100);
        s.due("count(1)", k.count(1), 0);
        s.due("tied(1, 0)", k.tied(1, 0), 0);
        s.due("reaches(14, 0)", k.reaches(14, 0), 0);
        s.due("order", Dues.order(k), "0 1 2 3 4 5 6 7 8 9 10 11 12 13 14");
        s.due("count(3)", k.count(3), 0);
        s.due("commit()", k.commit(), 100);
        s.due("count(1) of all that waited", k.count(1), 100);
        s.due("tied(1, 0), the first", k.tied(1, 0), 1);
        s.due("reaches(14, 8), the last", k.reaches(14, 8), 1);
        s.due("tied(14, 13), one too many", k.tied(14, 13), 0);
        s.due("count(3) then", k.count(3), 1);
        s.due("check()", k.check(), 1);
    }

    private void oneByOneAsGathered() {
        s.says("Terms", "COMMITTED, they come one by one, in the order in which they were gathered,");
        OrderKeeper k = Dues.withManyTasks(4);
        k.gather(3, 1);
        k.gather(3, 0);
        s.due("commit()", k.commit(), 2);
        s.due("order", Dues.order(k), "3 0 2 1");
        OrderKeeper other = Dues.withManyTasks(4);
        other.gather(3, 0);
        other.gather(3, 1);
        s.due("commit()", other.commit(), 2);
        s.due("order the other way round", Dues.order(other), "3 1 2 0");
    }

    private void thoseThatAreThere() {
        s.says("Terms", "those that are there already doing nothing;");
        OrderKeeper k = Dues.withManyTasks(3);
        k.tie(2, 0);
        k.gather(2, 0);
        s.due("commit() of one", k.commit(), 0);
        for (int i = 0; i < 99; i++) {
            k.gather(2, 0);
        }
        k.gather(1, 2);
        s.due("commit() of one that is new behind 99", k.commit(), 1);
        s.due("count(1)", k.count(1), 2);
        k.gather(1, 0);
        k.gather(1, 0);
        s.due("commit() of one that is new, twice", k.commit(), 1);
        s.due("count(1)", k.count(1), 3);
        OrderKeeper full = Dues.withManyTies(400);
        full.gather(0, 1);
        full.gather(24, 28);
        s.due("commit() when there are 400", full.commit(), 0);
        s.due("count(1)", full.count(1), 400);
    }

    private void aRingFirstOrLast() {
        s.says("Terms", ALL_OR_NONE);
        OrderKeeper k = Dues.withTasks(1, 2, 3, 4);
        k.tie(3, 1);
        k.gather(1, 3);
        k.gather(2, 0);
        s.due("commit() of a ring first", k.commit(), -2);
        s.due("order", Dues.order(k), "0 3 2 1");
        s.due("ties", Dues.ties(k), " 3>1");
        k.gather(2, 0);
        k.gather(1, 0);
        k.gather(0, 3);
        s.due("commit() of a ring last", k.commit(), -2);
        s.due("order", Dues.order(k), "0 3 2 1");
        s.due("ties", Dues.ties(k), " 3>1");
        s.due("count(1)", k.count(1), 1);
        s.due("count(3)", k.count(3), 1);
        s.due("count(5)", k.count(5), 0);
        OrderKeeper many = Dues.withManyTasks(15);
        gatherMany(many, 99);
        many.gather(0, 14);
        s.due("commit() of a ring behind 99", many.commit(), -2);
        s.due("count(1)", many.count(1), 0);
        s.due("ties", Dues.ties(many), "");
        s.due("order", Dues.order(many), "0 1 2 3 4 5 6 7 8 9 10 11 12 13 14");
        s.due("undo() has nothing", many.undo(), 0);
    }

    private void upToTheFourHundredth() {
        s.says("Terms", ALL_OR_NONE);
        OrderKeeper k = Dues.withManyTies(398);
        k.gather(26, 25);
        k.gather(26, 25);
        k.gather(0, 1);
        k.gather(28, 27);
        k.gather(26, 25);
        s.due("commit() of the 399th and 400th", k.commit(), 2);
        s.due("count(1)", k.count(1), 400);
        s.due("place(25)", k.place(25), 26);
        s.due("place(27)", k.place(27), 28);
        s.due("undo()", k.undo(), 1);
        s.due("count(1) taken back", k.count(1), 398);
    }

    private void moreThanTheFourHundredth() {
        s.says("Terms", ALL_OR_NONE);
        OrderKeeper k = Dues.withManyTies(399);
        k.gather(26, 25);
        k.gather(28, 27);
        s.due("commit() of the 400th and 401st", k.commit(), -1);
        s.due("count(1)", k.count(1), 399);
        for (int t = 25; t < 29; t++) {
            s.due("place(" + t + ")", k.place(t), t);
            s.due("at(" + t + ")", k.at(t), t);
        }
        s.due("tied(26, 25)", k.tied(26, 25), 0);
        s.due("tied(28, 27)", k.tied(28, 27), 0);
        k.gather(26, 25);
        s.due("commit() of the 400th alone", k.commit(), 1);
        k.gather(0, 1);
        k.gather(28, 27);
        s.due("commit() of the 401st", k.commit(), -1);
        s.due("count(1)", k.count(1), 400);
        s.due("place(25)", k.place(25), 26);
        s.due("place(27)", k.place(27), 27);
    }

    private void gatherTellsHowMany() {
        s.says("Promise 6", "One more tie in the bundle: how many.");
        OrderKeeper k = Dues.withManyTasks(3);
        k.tie(0, 1);
        s.due("the first", k.gather(2, 0), 1);
        s.due("the same", k.gather(2, 0), 2);
        s.due("one that is there", k.gather(0, 1), 3);
        s.due("one that would make a ring", k.gather(1, 0), 4);
        s.due("a task to itself", k.gather(2, 2), 5);
        s.due("count(2)", k.count(2), 5);
        s.due("count(4): no witness yet", k.count(4), 0);
        k.commit();
        s.due("the first of the next bundle", k.gather(2, 0), 1);
    }

    private void gatherOfNoTasks() {
        s.says("Promise 6", "NONE when there are no such tasks,");
        OrderKeeper k = Dues.withManyTasks(2);
        k.gather(1, 0);
        for (int x : Dues.noTasks(2)) {
            s.due("gather(" + x + ", 0)", k.gather(x, 0), -1);
            s.due("gather(1, " + x + ")", k.gather(1, x), -1);
            s.due("gather(" + x + ", " + x + ")", k.gather(x, x), -1);
        }
        s.due("count(2)", k.count(2), 1);
        s.due("commit() of the one", k.commit(), 1);
        s.due("ties", Dues.ties(k), " 1>0");
        OrderKeeper full = Dues.withManyTasks(60);
        s.due("gather(59, 60)", full.gather(59, 60), -1);
        s.due("gather(60, 59)", full.gather(60, 59), -1);
        s.due("gather(59, 0)", full.gather(59, 0), 1);
        s.due("gather(0, 0) of no tasks", new OrderKeeper().gather(0, 0), -1);
    }

    private void gatherOfOneTooMany() {
        s.says("Promise 6", "or there are 100.");
        OrderKeeper k = Dues.withManyTasks(3);
        for (int i = 1; i <= 100; i++) {
            s.due("gather " + i, k.gather(1, 0), i);
        }
        s.due("gather 101", k.gather(2, 1), -1);
        s.due("gather 102", k.gather(1, 0), -1);
        s.due("gather of no tasks", k.gather(3, 0), -1);
        s.due("count(2)", k.count(2), 100);
        s.due("commit()", k.commit(), 1);
        s.due("tied(2, 1)", k.tied(2, 1), 0);
        s.due("gather in the next bundle", k.gather(2, 1), 1);
        s.due("commit() of the next bundle", k.commit(), 1);
    }

    private void emptyWhateverIsAnswered() {
        s.says("Promise 7", "Commits the bundle, which is empty then (whatever is answered):");
        OrderKeeper k = Dues.withManyTies(399);
        k.gather(26, 25);
        s.due("commit() that brings one", k.commit(), 1);
        s.due("count(2)", k.count(2), 0);
        k.gather(28, 27);
        k.gather(0, 0);
        s.due("commit() that is NONE", k.commit(), -1);
        s.due("count(2)", k.count(2), 0);
        k.gather(0, 0);
        k.gather(28, 27);
        s.due("commit() that is RING", k.commit(), -2);
        s.due("count(2)", k.count(2), 0);
        k.gather(0, 1);
        s.due("commit() of what is there", k.commit(), 0);
        s.due("count(2)", k.count(2), 0);
        s.due("commit() of nothing", k.commit(), 0);
        s.due("count(2)", k.count(2), 0);
        s.due("gather then", k.gather(0, 1), 1);
    }

    private void howManyCame() {
        s.says("Promise 7", "how many ties came.");
        s.due("commit() without tasks", new OrderKeeper().commit(), 0);
        OrderKeeper k = Dues.withManyTasks(3);
        s.due("commit() of an empty bundle", k.commit(), 0);
        s.due("count(3): nothing was done", k.count(3), 0);
        k.gather(0, 1);
        s.due("commit() of one", k.commit(), 1);
        k.gather(0, 1);
        k.gather(1, 2);
        k.gather(0, 2);
        k.gather(1, 2);
        s.due("commit() of two that are new", k.commit(), 2);
        s.due("count(1)", k.count(1), 3);
        s.due("count(3)", k.count(3), 2);
        OrderKeeper many = Dues.withManyTasks(15);
        gatherMany(many, 100);
        s.due("commit() of 100", many.commit(), 100);
    }

    private void witnessOfTheFirst() {
        s.says("Promise 7", "RING likewise (the witness is that of the first that would make one, with those before it);");
        OrderKeeper k = Dues.withManyTasks(4);
        k.tie(0, 1);
        k.gather(2, 3);
        k.gather(1, 0);
        k.gather(3, 3);
        s.due("commit() with two rings", k.commit(), -2);
        s.due("witness", Dues.witness(k), "0 1");
        k.gather(3, 3);
        k.gather(1, 0);
        s.due("commit() the other way round", k.commit(), -2);
        s.due("witness", Dues.witness(k), "3");
    }

    private void witnessWithThoseBefore() {
        s.says("Promise 7", "with those before it");
        OrderKeeper k = Dues.withManyTasks(4);
        k.tie(0, 1);
        k.gather(1, 2);
        k.gather(2, 0);
        k.gather(0, 2);
        s.due("commit()", k.commit(), -2);
        s.due("witness: what comes behind it is no shorter way", Dues.witness(k), "0 1 2");
        k.gather(1, 2);
        k.gather(0, 2);
        k.gather(2, 0);
        s.due("commit() with a shorter way before it", k.commit(), -2);
        s.due("witness", Dues.witness(k), "0 2");
        s.due("ties", Dues.ties(k), " 0>1");
        k.tie(1, 2);
        k.gather(0, 2);
        k.gather(2, 0);
        s.due("commit() with a way that is there", k.commit(), -2);
        s.due("witness, shorter than what is there", Dues.witness(k), "0 2");
    }

    private void whateverComesFirst() {
        s.says("Promise 7", "NONE for the other reason, whatever comes first.");
        OrderKeeper k = Dues.withManyTies(399);
        k.gather(26, 25);
        k.gather(28, 27);
        k.gather(5, 5);
        s.due("commit() of too many before a ring", k.commit(), -1);
        s.due("no witness", k.count(4), 0);
        k.gather(26, 25);
        k.gather(5, 5);
        k.gather(28, 27);
        s.due("commit() of a ring before too many", k.commit(), -2);
        s.due("witness", Dues.witness(k), "5");
        k.gather(26, 25);
        k.gather(25, 26);
        s.due("commit() of a ring when there are 400 by then", k.commit(), -2);
        s.due("witness", Dues.witness(k), "26 25");
        s.due("count(1)", k.count(1), 399);
    }

    private void noneLeavesAllAsItWas() {
        s.says("Promise 7", "NONE for the other reason");
        OrderKeeper k = Dues.withManyTies(398);
        k.tie(26, 25);
        k.tie(25, 26);
        k.tie(28, 27);
        s.due("count(5) before", k.count(5), 2);
        k.gather(27, 25);
        s.due("commit()", k.commit(), -1);
        s.due("count(5) stays", k.count(5), 2);
        s.due("witness stays", Dues.witness(k), "26 25");
        s.due("place(28)", k.place(28), 27);
        s.due("count(3)", k.count(3), 64);
        s.due("undo()", k.undo(), 1);
        s.due("it takes back what came before", k.tied(28, 27), 0);
        s.due("and no more", k.tied(26, 25), 1);
    }
}
