/** Edges of ties, ways and rings: promises 4, 5, 12, 13 and 14, and what the terms say of them. */
final class TieEdges {
    private final Sentences s;

    TieEdges(Sentences sentences) {
        s = sentences;
    }

    void all() {
        atMostFourHundred();
        noneTwice();
        waysAreJoined();
        reachesItselfAndAll();
        neverARing();
        witnessHasTheFewestTies();
        witnessIsTheLeast();
        witnessIsOneTaskAlone();
        tieIsOne();
        tieOfNoTasks();
        tieThatIsThere();
        tieThatMakesARing();
        tieWhenThereAreFourHundred();
        whichAnswerComesFirst();
        untieOnce();
        untieOfNone();
        untieLeavesPlaces();
        reachesIsOneOrZero();
        reachesOfNoTasks();
        tiedAndNotNeeded();
        tiedOfNoTasks();
        witnessFromFirstToLast();
        onlyTheLatestWitness();
    }

    private void atMostFourHundred() {
        s.says("Terms", "A TIE from x to y tells that x comes before y; there are at most 400,");
        OrderKeeper k = Dues.withManyTies(399);
        s.due("count(1)", k.count(1), 399);
        s.due("the 400th", k.tie(26, 25), 1);
        s.due("26 comes before 25", k.place(26) < k.place(25), true);
        s.due("the 401st", k.tie(28, 27), -1);
        s.due("count(1)", k.count(1), 400);
        k.gather(28, 27);
        s.due("the 401st in a bundle", k.commit(), -1);
        s.due("count(1)", k.count(1), 400);
        s.due("tied(28, 27)", k.tied(28, 27), 0);
        s.due("27 and 28 stay", k.place(27) + 1, k.place(28));
    }

    private void noneTwice() {
        s.says("Terms", "none twice.");
        OrderKeeper k = Dues.withManyTasks(3);
        k.tie(0, 2);
        k.tie(0, 2);
        k.gather(0, 2);
        k.gather(0, 1);
        k.gather(0, 1);
        k.commit();
        s.due("count(1)", k.count(1), 2);
        s.due("untie(0, 2)", k.untie(0, 2), 1);
        s.due("untie(0, 1)", k.untie(0, 1), 1);
        s.due("untie(0, 2) again", k.untie(0, 2), 0);
        s.due("untie(0, 1) again", k.untie(0, 1), 0);
        s.due("count(1) then", k.count(1), 0);
    }

    private void waysAreJoined() {
        s.says("Terms", "A WAY from x to y is a row of ties, each beginning where the one before ends;");
        OrderKeeper k = Dues.withManyTasks(6);
        k.tie(0, 1);
        k.tie(2, 3);
        s.due("two ties apart", k.reaches(0, 3), 0);
        k.tie(4, 1);
        s.due("two ties with one end", k.reaches(0, 4), 0);
        k.tie(0, 5);
        s.due("two ties with one beginning", k.reaches(1, 5), 0);
        s.due("and the other way round", k.reaches(5, 1), 0);
        k.tie(1, 2);
        s.due("joined by a third", k.reaches(0, 3), 1);
        s.due("from the other beginning", k.reaches(4, 3), 1);
        k.untie(1, 2);
        s.due("apart again", k.reaches(0, 3), 0);
    }

    private void reachesItselfAndAll() {
        s.says("Terms", "x REACHES itself and all to which ways lead.");
        OrderKeeper one = Dues.withManyTasks(1);
        s.due("reaches(0, 0) of one without ties", one.reaches(0, 0), 1);
        OrderKeeper k = Dues.withManyTasks(60);
        for (int t = 58; t >= 0; t--) {
            k.tie(t, t + 1);
        }
        for (int t = 0; t < 60; t++) {
            s.due("reaches(0, " + t + ")", k.reaches(0, t), 1);
            s.due("reaches(" + t + ", " + t + ")", k.reaches(t, t), 1);
            s.due("reaches(59, " + t + ")", k.reaches(59, t), t == 59 ? 1 : 0);
        }
    }

    private void neverARing() {
        s.says("Terms", "Ties never make a RING (a way from a task to itself).");
        OrderKeeper k = Dues.withManyTasks(60);
        s.due("a ring of one", k.tie(59, 59), -2);
        for (int t = 0; t < 59; t++) {
            k.tie(t, t + 1);
        }
        s.due("a ring of two", k.tie(1, 0), -2);
        s.due("a ring of three", k.tie(59, 57), -2);
        s.due("a ring of 60", k.tie(59, 0), -2);
        k.gather(59, 0);
        s.due("a ring of 60 in a bundle", k.commit(), -2);
        k.gather(7, 7);
        s.due("a ring of one in a bundle", k.commit(), -2);
        s.due("count(1)", k.count(1), 59);
        s.due("reaches(59, 0)", k.reaches(59, 0), 0);
        s.due("tied(59, 59)", k.tied(59, 59), 0);
        k.untie(30, 31);
        s.due("none when a tie of it is gone", k.tie(59, 0), 1);
        s.due("but now from there", k.tie(30, 31), -2);
    }

    private void witnessHasTheFewestTies() {
        s.says("Terms", "A tie from x to y that would make a ring has a WITNESS: the way from y to x with the fewest ties;");
        OrderKeeper k = Dues.withManyTasks(6);
        // The more ties a way has, the lesser are its tasks.
        k.tie(0, 1);
        k.tie(1, 2);
        k.tie(2, 5);
        k.tie(0, 4);
        k.tie(4, 5);
        k.tie(5, 0);
        s.due("witness", Dues.witness(k), "0 4 5");
        k.tie(0, 5);
        k.tie(5, 0);
        s.due("witness of one tie", Dues.witness(k), "0 5");
        k.untie(0, 5);
        k.untie(4, 5);
        k.tie(5, 0);
        s.due("witness of three ties", Dues.witness(k), "0 1 2 5");
        OrderKeeper row = Dues.withManyTasks(60);
        for (int t = 59; t > 0; t--) {
            row.tie(t, t - 1);
        }
        row.tie(0, 59);
        s.due("count(4) of the longest", row.count(4), 60);
        for (int i = 0; i < 60; i++) {
            s.due("witness(" + i + ") of the longest", row.witness(i), 59 - i);
        }
    }

    private void witnessIsTheLeast() {
        s.says("Terms", "of these the one whose tasks, from y on, are less where they first differ");
        OrderKeeper k = Dues.withManyTasks(8);
        // 7 2 3 0 is less seen from its end, but 7 1 5 0 from y on.
        k.tie(7, 2);
        k.tie(2, 3);
        k.tie(3, 0);
        k.tie(7, 1);
        k.tie(1, 5);
        k.tie(5, 0);
        k.tie(1, 6);
        k.tie(6, 0);
        // 4 would be less, but is a way to nowhere.
        k.tie(1, 4);
        k.tie(0, 7);
        s.due("witness", Dues.witness(k), "7 1 5 0");
        k.untie(5, 0);
        k.tie(0, 7);
        s.due("witness without 5", Dues.witness(k), "7 1 6 0");
        k.untie(6, 0);
        k.tie(0, 7);
        s.due("witness without 1", Dues.witness(k), "7 2 3 0");
        k.tie(4, 0);
        k.tie(0, 7);
        s.due("witness with 4", Dues.witness(k), "7 1 4 0");
    }

    private void witnessIsOneTaskAlone() {
        s.says("Terms", "(y alone, when it is x).");
        OrderKeeper k = Dues.withManyTasks(60);
        k.tie(0, 59);
        s.due("tie(59, 59)", k.tie(59, 59), -2);
        s.due("witness", Dues.witness(k), "59");
        s.due("tie(0, 0)", k.tie(0, 0), -2);
        s.due("witness", Dues.witness(k), "0");
        k.gather(5, 5);
        s.due("commit()", k.commit(), -2);
        s.due("witness", Dues.witness(k), "5");
        s.due("count(4)", k.count(4), 1);
    }

    private void tieIsOne() {
        s.says("Promise 4", "A tie from x to y: 1.");
        OrderKeeper k = Dues.withManyTasks(2);
        s.due("tie(1, 0)", k.tie(1, 0), 1);
        s.due("tied(1, 0)", k.tied(1, 0), 1);
        s.due("tied(0, 1)", k.tied(0, 1), 0);
        s.due("count(1)", k.count(1), 1);
        s.due("count(3)", k.count(3), 1);
    }

    private void tieOfNoTasks() {
        s.says("Promise 4", "NONE when there are no such tasks;");
        OrderKeeper k = Dues.withManyTasks(2);
        k.tie(1, 0);
        k.tie(0, 1);
        String before = Dues.state(k);
        for (int x : Dues.noTasks(2)) {
            s.due("tie(" + x + ", 0)", k.tie(x, 0), -1);
            s.due("tie(1, " + x + ")", k.tie(1, x), -1);
            s.due("tie(" + x + ", " + x + ")", k.tie(x, x), -1);
        }
        s.due("all is as before", Dues.state(k), before);
        OrderKeeper full = Dues.withManyTasks(60);
        for (int x : Dues.noTasks(60)) {
            s.due("tie(" + x + ", 0) of 60", full.tie(x, 0), -1);
            s.due("tie(59, " + x + ") of 60", full.tie(59, x), -1);
        }
        s.due("count(1) of 60", full.count(1), 0);
        s.due("tie(0, 0) of none", new OrderKeeper().tie(0, 0), -1);
    }

    private void tieThatIsThere() {
        s.says("Promise 4", "else 0 when it is there;");
        OrderKeeper k = Dues.withManyTasks(3);
        k.tie(2, 0);
        k.tie(0, 2);
        k.tie(2, 1);
        k.untie(2, 1);
        s.due("tie(2, 0)", k.tie(2, 0), 0);
        s.due("count(1)", k.count(1), 1);
        s.due("count(3)", k.count(3), 3);
        s.due("witness stays", Dues.witness(k), "2 0");
        s.due("order stays", Dues.order(k), "2 1 0");
        s.due("tie(2, 1), which is not there any more", k.tie(2, 1), 1);
    }

    private void tieThatMakesARing() {
        s.says("Promise 4", "else RING, and nothing is done but for the witness, when it would make a ring;");
        OrderKeeper k = Dues.withTasks(1, 2, 3, 4);
        k.gather(1, 2);
        k.plan(2);
        k.tie(3, 1);
        k.tie(1, 0);
        k.tie(2, 3);
        k.tie(2, 3);
        String before = Dues.state(k);
        s.due("no witness before", k.count(4), 0);
        s.due("tie(0, 2)", k.tie(0, 2), -2);
        s.due("witness", Dues.witness(k), "2 3 1 0");
        String after = Dues.state(k).replace("witness 2 3 1 0", "witness ");
        // The fifth of the counts is how long the witness is.
        s.due("all else is as before", after.replaceFirst("(counts( \\d+){4}) 4", "$1 0"), before);
    }

    private void tieWhenThereAreFourHundred() {
        s.says("Promise 4", "else NONE when there are 400.");
        OrderKeeper k = Dues.withManyTies(399);
        s.due("the 400th", k.tie(27, 28), 1);
        s.due("the 401st, led on", k.tie(25, 26), -1);
        s.due("the 401st, led back", k.tie(26, 25), -1);
        s.due("place(25)", k.place(25), 25);
        s.due("place(26)", k.place(26), 26);
        s.due("tied(26, 25)", k.tied(26, 25), 0);
        s.due("count(1)", k.count(1), 400);
        s.due("count(3)", k.count(3), 64);
        s.due("undo() takes the 400th back", k.undo(), 1);
        s.due("tied(27, 28)", k.tied(27, 28), 0);
        s.due("there is room again", k.tie(26, 25), 1);
        s.due("and no more", k.tie(27, 28), -1);
        s.due("untie(0, 1)", k.untie(0, 1), 1);
        s.due("room by an untie", k.tie(27, 28), 1);
        s.due("and no more", k.tie(0, 1), -1);
    }

    private void whichAnswerComesFirst() {
        s.says("Promise 4", "NONE when there are no such tasks; else 0 when it is there; else RING, and nothing is done but"
            + " for the witness, when it would make a ring; else NONE when there are 400.");
        OrderKeeper k = Dues.withManyTies(400);
        s.due("no such task, and a ring if there were", k.tie(29, 29), -1);
        s.due("no witness", k.count(4), 0);
        s.due("there, and 400 are", k.tie(0, 1), 0);
        s.due("a ring, and 400 are there", k.tie(28, 0), -2);
        s.due("witness", Dues.witness(k), "0 28");
        s.due("a ring of one, and 400 are there", k.tie(28, 28), -2);
        s.due("witness", Dues.witness(k), "28");
        s.due("none of these, and 400 are there", k.tie(28, 27), -1);
        s.due("witness stays", Dues.witness(k), "28");
        s.due("count(1)", k.count(1), 400);
    }

    private void untieOnce() {
        s.says("Promise 5", "There is no tie from x to y any more: 1;");
        OrderKeeper k = Dues.withManyTasks(60);
        k.tie(59, 0);
        k.tie(59, 1);
        k.tie(58, 0);
        s.due("untie(59, 0)", k.untie(59, 0), 1);
        s.due("tied(59, 0)", k.tied(59, 0), 0);
        s.due("reaches(59, 0)", k.reaches(59, 0), 0);
        s.due("tied(59, 1)", k.tied(59, 1), 1);
        s.due("tied(58, 0)", k.tied(58, 0), 1);
        s.due("count(1)", k.count(1), 2);
        s.due("tie(0, 59) is free", k.tie(0, 59), 1);
    }

    private void untieOfNone() {
        s.says("Promise 5", "0 when there was none.");
        OrderKeeper k = Dues.withManyTasks(3);
        k.tie(0, 1);
        k.tie(1, 2);
        String before = Dues.state(k);
        s.due("untie(1, 0), the other way round", k.untie(1, 0), 0);
        s.due("untie(0, 2), a way alone", k.untie(0, 2), 0);
        s.due("untie(0, 0)", k.untie(0, 0), 0);
        for (int x : Dues.noTasks(3)) {
            s.due("untie(" + x + ", 1)", k.untie(x, 1), 0);
            s.due("untie(0, " + x + ")", k.untie(0, x), 0);
            s.due("untie(" + x + ", " + x + ")", k.untie(x, x), 0);
        }
        s.due("all is as before", Dues.state(k), before);
        k.untie(0, 1);
        s.due("untie(0, 1) again", k.untie(0, 1), 0);
        k.gather(0, 1);
        s.due("untie(0, 1) of one that waits", k.untie(0, 1), 0);
        s.due("count(2)", k.count(2), 1);
        s.due("untie(0, 0) of no tasks", new OrderKeeper().untie(0, 0), 0);
    }

    private void untieLeavesPlaces() {
        s.says("Promise 5", "Places stay.");
        OrderKeeper k = Dues.withManyTasks(3);
        k.tie(2, 0);
        k.untie(2, 0);
        s.due("order", Dues.order(k), "2 1 0");
        s.due("count(5)", k.count(5), 2);
        k.untie(2, 0);
        s.due("order after one that was none", Dues.order(k), "2 1 0");
    }

    private void reachesIsOneOrZero() {
        s.says("Promise 12", "Whether x reaches y: 1, 0;");
        OrderKeeper k = Dues.withManyTasks(60);
        k.tie(59, 30);
        k.tie(30, 0);
        s.due("reaches(59, 0)", k.reaches(59, 0), 1);
        s.due("reaches(59, 30)", k.reaches(59, 30), 1);
        s.due("reaches(0, 59)", k.reaches(0, 59), 0);
        s.due("reaches(59, 59)", k.reaches(59, 59), 1);
        s.due("reaches(59, 58)", k.reaches(59, 58), 0);
        s.due("reaches(58, 0)", k.reaches(58, 0), 0);
        k.gather(0, 1);
        s.due("reaches(59, 1) by one that waits", k.reaches(59, 1), 0);
        k.undo();
        s.due("reaches(59, 0) without one tie", k.reaches(59, 0), 0);
    }

    private void reachesOfNoTasks() {
        s.says("Promise 12", "NONE when there are no such tasks.");
        OrderKeeper k = Dues.withManyTasks(2);
        k.tie(0, 1);
        for (int x : Dues.noTasks(2)) {
            s.due("reaches(" + x + ", 1)", k.reaches(x, 1), -1);
            s.due("reaches(0, " + x + ")", k.reaches(0, x), -1);
            s.due("reaches(" + x + ", " + x + ")", k.reaches(x, x), -1);
        }
        OrderKeeper full = Dues.withManyTasks(60);
        s.due("reaches(60, 60)", full.reaches(60, 60), -1);
        s.due("reaches(59, 60)", full.reaches(59, 60), -1);
        s.due("reaches(0, 0) of none", new OrderKeeper().reaches(0, 0), -1);
    }

    private void tiedAndNotNeeded() {
        s.says("Promise 13", "Whether there is a tie from x to y (1), that is not needed (2), or none (0);");
        OrderKeeper k = Dues.withManyTasks(60);
        k.tie(0, 59);
        s.due("tied(0, 59) alone", k.tied(0, 59), 1);
        s.due("tied(59, 0)", k.tied(59, 0), 0);
        s.due("tied(59, 59)", k.tied(59, 59), 0);
        for (int t = 0; t < 58; t++) {
            k.tie(t, t + 1);
        }
        s.due("tied(0, 59) with a way that ends before", k.tied(0, 59), 1);
        k.tie(58, 59);
        s.due("tied(0, 59) with the longest way", k.tied(0, 59), 2);
        s.due("tied(0, 1)", k.tied(0, 1), 1);
        s.due("tied(58, 59)", k.tied(58, 59), 1);
        s.due("tied(0, 58), a way alone", k.tied(0, 58), 0);
        k.untie(30, 31);
        s.due("tied(0, 59) with a way that is cut", k.tied(0, 59), 1);
        k.tie(1, 59);
        s.due("tied(0, 59) with a way of two ties", k.tied(0, 59), 2);
        OrderKeeper turned = Dues.withManyTasks(4);
        turned.tie(1, 2);
        turned.tie(2, 3);
        turned.tie(3, 0);
        turned.tie(1, 0);
        s.due("order", Dues.order(turned), "1 2 3 0");
        s.due("tied(1, 0), to the least task at the last place", turned.tied(1, 0), 2);
        s.due("tied(3, 0)", turned.tied(3, 0), 1);
    }

    private void tiedOfNoTasks() {
        s.says("Promise 13", "NONE when there are no such tasks.");
        OrderKeeper k = Dues.withManyTasks(2);
        k.tie(0, 1);
        for (int x : Dues.noTasks(2)) {
            s.due("tied(" + x + ", 1)", k.tied(x, 1), -1);
            s.due("tied(0, " + x + ")", k.tied(0, x), -1);
            s.due("tied(" + x + ", " + x + ")", k.tied(x, x), -1);
        }
        OrderKeeper full = Dues.withManyTasks(60);
        s.due("tied(60, 60)", full.tied(60, 60), -1);
        s.due("tied(59, 60)", full.tied(59, 60), -1);
        s.due("tied(0, 0) of none", new OrderKeeper().tied(0, 0), -1);
    }

    private void witnessFromFirstToLast() {
        s.says("Promise 14", "NONE when there is none such.");
        OrderKeeper k = Dues.withManyTasks(4);
        s.due("witness(0) when there is none yet", k.witness(0), -1);
        k.tie(2, 0);
        k.tie(0, 1);
        k.tie(1, 2);
        s.due("witness(0)", k.witness(0), 2);
        s.due("witness(2)", k.witness(2), 1);
        s.due("witness(3)", k.witness(3), -1);
        for (int i : Dues.noTasks(3)) {
            s.due("witness(" + i + ")", k.witness(i), -1);
        }
    }

    private void onlyTheLatestWitness() {
        s.says("Promise 14", "Task k of the latest witness;");
        OrderKeeper k = Dues.withManyTasks(4);
        k.tie(2, 0);
        k.tie(0, 1);
        k.tie(1, 2);
        k.tie(3, 3);
        s.due("witness(0) of a shorter one", k.witness(0), 3);
        s.due("witness(1) of a shorter one", k.witness(1), -1);
        s.due("count(4)", k.count(4), 1);
        k.gather(0, 2);
        k.commit();
        s.due("witness(0) of a bundle", k.witness(0), 2);
        s.due("witness(1) of a bundle", k.witness(1), 0);
        k.tie(3, 0);
        k.tie(3, 0);
        k.tie(4, 4);
        k.untie(2, 0);
        k.undo();
        k.gather(1, 3);
        k.task(5);
        k.task(-1);
        k.commit();
        s.due("latest commit made a ring", Dues.witness(k), "3 0 1");
        k.weigh(0, 4);
        k.commit();
        k.plan(2);
        s.due("calls without a ring leave it", Dues.witness(k), "3 0 1");
        k.untie(0, 1);
        s.due("an untie of its tie leaves it", Dues.witness(k), "3 0 1");
    }
}
