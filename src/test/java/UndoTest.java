/** Promise 8: undo. */
public final class UndoTest {
    private static final Dues D = new Dues("UndoTest");

    public static void main(String[] args) {
        eachKind();
        whatDidNothingIsNotRemembered();
        sixtyFour();
        sixtyFourAgainAndAgain();
        onlyWeightsTiesAndPlaces();
        D.end();
    }

    private static void eachKind() {
        OrderKeeper k = Dues.withTasks(1, 2, 3, 4);
        k.tie(3, 0);
        k.weigh(1, 9);
        k.untie(3, 0);
        k.gather(2, 1);
        k.gather(1, 0);
        k.commit();
        D.due("count(3)", k.count(3), 4);
        D.due("undo() of commit", k.undo(), 1);
        D.due("order", Dues.order(k), "3 1 2 0");
        D.due("count(1)", k.count(1), 0);
        D.due("undo() of untie", k.undo(), 1);
        D.due("tied(3, 0)", k.tied(3, 0), 1);
        D.due("count(1)", k.count(1), 1);
        D.due("weights", Dues.times(k, 3), "1 9 3 4");
        D.due("undo() of weigh", k.undo(), 1);
        D.due("weights", Dues.times(k, 3), "1 2 3 4");
        D.due("order", Dues.order(k), "3 1 2 0");
        D.due("undo() of tie", k.undo(), 1);
        D.due("order", Dues.order(k), "0 1 2 3");
        D.due("tied(3, 0)", k.tied(3, 0), 0);
        D.due("reaches(3, 0)", k.reaches(3, 0), 0);
        D.due("undo() of nothing", k.undo(), 0);
        D.due("check()", k.check(), 1);
    }

    private static void whatDidNothingIsNotRemembered() {
        OrderKeeper k = Dues.withTasks(1, 1, 1);
        k.tie(2, 1);
        k.tie(2, 1);
        k.tie(1, 2);
        k.tie(1, 7);
        k.untie(0, 1);
        k.weigh(0, -1);
        k.commit();
        k.gather(1, 2);
        k.commit();
        k.gather(2, 1);
        k.commit();
        k.undo();
        D.due("tied(2, 1)", k.tied(2, 1), 0);
        D.due("count(3)", k.count(3), 0);
        D.due("undo()", k.undo(), 0);
        k.weigh(0, 1);
        D.due("the same weight is a doing", k.count(3), 1);
        D.due("undo() of it", k.undo(), 1);
    }

    private static void sixtyFour() {
        OrderKeeper k = Dues.withTasks(0);
        for (int w = 1; w <= 70; w++) {
            k.weigh(0, w);
            D.due("count(3) at " + w, k.count(3), Math.min(w, 64));
        }
        for (int w = 69; w >= 6; w--) {
            D.due("undo() to " + w, k.undo(), 1);
            D.due("weight", k.time(0, 3), w);
        }
        D.due("the 65th undo()", k.undo(), 0);
        D.due("weight", k.time(0, 3), 6);
    }

    private static void sixtyFourAgainAndAgain() {
        OrderKeeper k = Dues.withManyTasks(20);
        for (int x = 19; x > 0; x--) {
            k.tie(x, x - 1);
        }
        for (int w = 1; w <= 60; w++) {
            k.weigh(0, w);
        }
        for (int i = 0; i < 62; i++) {
            k.undo();
        }
        D.due("count(1)", k.count(1), 17);
        D.due("count(3)", k.count(3), 2);
        k.tie(0, 1);
        D.due("count(3)", k.count(3), 3);
        k.undo();
        k.undo();
        D.due("count(1)", k.count(1), 16);
        k.undo();
        D.due("undo() at the end", k.undo(), 0);
        D.due("count(1)", k.count(1), 15);
        D.due("order", Dues.order(k), "0 1 2 3 19 18 17 16 15 14 13 12 11 10 9 8 7 6 5 4");
        D.due("check()", k.check(), 1);
    }

    private static void onlyWeightsTiesAndPlaces() {
        OrderKeeper k = Dues.withTasks(2, 3);
        k.tie(1, 0);
        k.tie(0, 1);
        k.plan(1);
        k.gather(1, 0);
        D.due("undo()", k.undo(), 1);
        D.due("order", Dues.order(k), "0 1");
        D.due("the bundle stays", k.count(2), 1);
        D.due("the witness stays", Dues.witness(k), "1 0");
        D.due("the plan stays", Dues.plan(k), "3/0 0/0");
        D.due("count(5) is of the latest tie, a ring", k.count(5), 0);
        k.tie(1, 0);
        k.undo();
        D.due("count(5) stays", k.count(5), 2);
        D.due("a taken back tie can come again", k.commit(), 1);
        D.due("order", Dues.order(k), "1 0");
    }
}
