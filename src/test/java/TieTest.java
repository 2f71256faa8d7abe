/** Promises 4, 5, 12, 13, 14 and 19: tie, untie, reaches, tied, witness, check. */
public final class TieTest {
    private static final Dues D = new Dues("TieTest");

    public static void main(String[] args) {
        ordinaryTies();
        noSuchTasks();
        onlyWhatLiesBetweenMoves();
        bothSidesKeepTheirOrder();
        ringsChangeNothing();
        shortestWitness();
        leastWitness();
        witnessStays();
        fourHundredTies();
        untie();
        reaches();
        notNeeded();
        D.end();
    }

    private static void ordinaryTies() {
        OrderKeeper k = Dues.withManyTasks(4);
        D.due("tie(0, 3)", k.tie(0, 3), 1);
        D.due("order stays", Dues.order(k), "0 1 2 3");
        D.due("tie(0, 3) again", k.tie(0, 3), 0);
        D.due("count(1)", k.count(1), 1);
        D.due("tie(3, 1)", k.tie(3, 1), 1);
        D.due("order is mended", Dues.order(k), "0 3 2 1");
        D.due("check()", k.check(), 1);
        D.due("count(1)", k.count(1), 2);
        D.due("count(3)", k.count(3), 2);
    }

    private static void noSuchTasks() {
        OrderKeeper k = Dues.withManyTasks(2);
        int[] none = {-1, 2, 60, 64, Integer.MAX_VALUE, Integer.MIN_VALUE};
        for (int x : none) {
            D.due("tie(" + x + ", 0)", k.tie(x, 0), -1);
            D.due("tie(0, " + x + ")", k.tie(0, x), -1);
            D.due("tie(" + x + ", " + x + ")", k.tie(x, x), -1);
            D.due("untie(" + x + ", 0)", k.untie(x, 0), 0);
            D.due("untie(0, " + x + ")", k.untie(0, x), 0);
            D.due("reaches(" + x + ", 0)", k.reaches(x, 0), -1);
            D.due("reaches(0, " + x + ")", k.reaches(0, x), -1);
            D.due("reaches(" + x + ", " + x + ")", k.reaches(x, x), -1);
            D.due("tied(" + x + ", 0)", k.tied(x, 0), -1);
            D.due("tied(0, " + x + ")", k.tied(0, x), -1);
            D.due("witness(" + x + ")", k.witness(x), -1);
        }
        D.due("count(1)", k.count(1), 0);
        D.due("count(3)", k.count(3), 0);
        D.due("count(4)", k.count(4), 0);
    }

    private static void onlyWhatLiesBetweenMoves() {
        OrderKeeper k = Dues.withManyTasks(8);
        // 0 reaches 6 but lies before 2; 2 reaches 7 but it lies behind 6: both stay.
        k.tie(0, 6);
        k.tie(2, 7);
        k.tie(4, 6);
        k.tie(2, 3);
        D.due("tie(6, 2)", k.tie(6, 2), 1);
        D.due("order", Dues.order(k), "0 1 4 6 2 5 3 7");
        D.due("count(5)", k.count(5), 4);
        D.due("check()", k.check(), 1);
    }

    private static void bothSidesKeepTheirOrder() {
        OrderKeeper k = Dues.withManyTasks(9);
        k.tie(1, 8);
        k.tie(3, 8);
        k.tie(5, 8);
        k.tie(0, 2);
        k.tie(0, 4);
        k.tie(0, 7);
        D.due("tie(8, 0)", k.tie(8, 0), 1);
        D.due("order", Dues.order(k), "1 3 5 8 0 2 6 4 7");
        D.due("check()", k.check(), 1);
    }

    private static void ringsChangeNothing() {
        OrderKeeper k = Dues.withManyTasks(4);
        k.tie(3, 2);
        k.tie(2, 0);
        String order = Dues.order(k);
        D.due("tie(0, 3)", k.tie(0, 3), -2);
        D.due("witness", Dues.witness(k), "3 2 0");
        D.due("witness(3)", k.witness(3), -1);
        D.due("witness(-1)", k.witness(-1), -1);
        D.due("order", Dues.order(k), order);
        D.due("count(1)", k.count(1), 2);
        D.due("count(3)", k.count(3), 2);
        D.due("tied(0, 3)", k.tied(0, 3), 0);
        D.due("tie(1, 1)", k.tie(1, 1), -2);
        D.due("witness of a task alone", Dues.witness(k), "1");
        D.due("tie(2, 3)", k.tie(2, 3), -2);
        D.due("witness of one tie", Dues.witness(k), "3 2");
        D.due("check()", k.check(), 1);
    }

    private static void shortestWitness() {
        OrderKeeper k = Dues.withManyTasks(7);
        // The longer way has the lesser tasks.
        k.tie(0, 1);
        k.tie(1, 2);
        k.tie(2, 6);
        k.tie(0, 5);
        k.tie(5, 6);
        D.due("tie(6, 0)", k.tie(6, 0), -2);
        D.due("witness", Dues.witness(k), "0 5 6");
    }

    private static void leastWitness() {
        OrderKeeper k = Dues.withManyTasks(8);
        // Of three ways with three ties, 7 1 5 0 is the least; the greedy end 7 2 3 0 is not.
        k.tie(7, 2);
        k.tie(2, 3);
        k.tie(3, 0);
        k.tie(7, 1);
        k.tie(1, 6);
        k.tie(6, 0);
        k.tie(1, 5);
        k.tie(5, 0);
        // 4 is less than 5, but no way leads on from it.
        k.tie(1, 4);
        D.due("tie(0, 7)", k.tie(0, 7), -2);
        D.due("witness", Dues.witness(k), "7 1 5 0");
        k.untie(5, 0);
        D.due("tie(0, 7) later", k.tie(0, 7), -2);
        D.due("witness later", Dues.witness(k), "7 1 6 0");
    }

    private static void witnessStays() {
        OrderKeeper k = Dues.withManyTasks(3);
        k.tie(0, 1);
        k.tie(1, 0);
        D.due("witness", Dues.witness(k), "0 1");
        k.tie(1, 2);
        k.tie(1, 2);
        k.tie(9, 2);
        k.undo();
        k.untie(0, 1);
        k.task(1);
        k.commit();
        D.due("witness stays", Dues.witness(k), "0 1");
    }

    private static void fourHundredTies() {
        OrderKeeper k = Dues.withManyTasks(30);
        Dues.tieMany(k, 30, 399);
        D.due("count(1)", k.count(1), 399);
        D.due("the 400th", k.tie(28, 29), 1);
        D.due("count(1)", k.count(1), 400);
        D.due("tied(27, 29)", k.tied(27, 29), 0);
        D.due("one more", k.tie(27, 29), -1);
        D.due("one that is there", k.tie(28, 29), 0);
        D.due("one that makes a ring", k.tie(29, 28), -2);
        D.due("witness", Dues.witness(k), "28 29");
        D.due("tied(27, 29)", k.tied(27, 29), 0);
        D.due("count(1)", k.count(1), 400);
        D.due("untie(0, 1)", k.untie(0, 1), 1);
        D.due("there is room again", k.tie(27, 29), 1);
        D.due("and none again", k.tie(0, 1), -1);
        D.due("check()", k.check(), 1);
    }

    private static void untie() {
        OrderKeeper k = Dues.withManyTasks(3);
        k.tie(2, 0);
        D.due("untie(0, 2)", k.untie(0, 2), 0);
        D.due("untie(0, 0)", k.untie(0, 0), 0);
        D.due("untie(2, 0)", k.untie(2, 0), 1);
        D.due("untie(2, 0) again", k.untie(2, 0), 0);
        D.due("places stay", Dues.order(k), "2 1 0");
        D.due("count(1)", k.count(1), 0);
        D.due("count(3)", k.count(3), 2);
        D.due("reaches(2, 0)", k.reaches(2, 0), 0);
        D.due("tied(2, 0)", k.tied(2, 0), 0);
        D.due("tie(0, 2) is free", k.tie(0, 2), 1);
        D.due("order", Dues.order(k), "0 1 2");
    }

    private static void reaches() {
        OrderKeeper k = Dues.withManyTasks(5);
        k.tie(4, 2);
        k.tie(2, 0);
        D.due("reaches(3, 3)", k.reaches(3, 3), 1);
        D.due("reaches(4, 2)", k.reaches(4, 2), 1);
        D.due("reaches(4, 0)", k.reaches(4, 0), 1);
        D.due("reaches(0, 4)", k.reaches(0, 4), 0);
        D.due("reaches(2, 4)", k.reaches(2, 4), 0);
        D.due("reaches(4, 1)", k.reaches(4, 1), 0);
        D.due("reaches(1, 0)", k.reaches(1, 0), 0);
        OrderKeeper all = Dues.withManyTasks(60);
        for (int t = 0; t < 59; t++) {
            all.tie(t, t + 1);
        }
        D.due("reaches(0, 59)", all.reaches(0, 59), 1);
        D.due("reaches(59, 0)", all.reaches(59, 0), 0);
        D.due("tie(59, 0)", all.tie(59, 0), -2);
        D.due("count(4)", all.count(4), 60);
        D.due("witness(59)", all.witness(59), 59);
        D.due("witness(60)", all.witness(60), -1);
    }

    private static void notNeeded() {
        OrderKeeper k = Dues.withManyTasks(5);
        k.tie(0, 3);
        D.due("tied(0, 3)", k.tied(0, 3), 1);
        D.due("count(6)", k.count(6), 0);
        k.tie(0, 1);
        k.tie(1, 2);
        k.tie(2, 3);
        D.due("tied(0, 3) beside a way", k.tied(0, 3), 2);
        D.due("tied(0, 1)", k.tied(0, 1), 1);
        D.due("tied(3, 0)", k.tied(3, 0), 0);
        D.due("tied(0, 2)", k.tied(0, 2), 0);
        D.due("tied(0, 0)", k.tied(0, 0), 0);
        D.due("count(6)", k.count(6), 1);
        k.tie(1, 3);
        k.tie(3, 4);
        D.due("tied(1, 3)", k.tied(1, 3), 2);
        D.due("tied(3, 4)", k.tied(3, 4), 1);
        D.due("count(6)", k.count(6), 2);
        k.untie(2, 3);
        D.due("tied(1, 3) alone", k.tied(1, 3), 1);
        D.due("tied(0, 3) still", k.tied(0, 3), 2);
        D.due("count(6)", k.count(6), 1);
    }
}
