/** Promises 27 to 30: the PLAN and what is DONE by it, BOOK and what is LOOKED at. */
public final class PlansTest {
    private static final Check check = new Check();

    public static void main(String[] args) {
        plan();
        planRefused();
        doneByDays();
        doneByThoseAway();
        doneByBeginning();
        doneChangesNothing();
        book();
        looked();
        check.end();
    }

    private static void plan() {
        AuntsInTurn x = new AuntsInTurn();
        check.due("plan(-1) of none", x.plan(-1, 0), 0);
        check.due("plan(0, 999)", x.plan(0, 999), 1);
        check.due("plan(0, -999)", x.plan(0, -999), 2);
        x.aunt(0, 0, 0);
        x.asker();
        check.due("plan(1, 0)", x.plan(1, 0), 3);
        check.due("plan(2, 0)", x.plan(2, 0), 4);
        check.due("plan(3, 0)", x.plan(3, 0), 5);
        for (int i = 6; i <= 8; i++) {
            check.due("plan(0, 0)", x.plan(0, 0), i);
        }
        check.due("FULL", x.plan(0, 0), -4);
        check.due("NONE ahead of FULL", x.plan(1, 1), -1);
        check.due("rows", x.count(4), 8);
        check.due("plan(-1, 999)", x.plan(-1, 999), 0);
        check.due("rows then", x.count(4), 0);
        check.due("plan again", x.plan(0, 0), 1);
    }

    private static void planRefused() {
        AuntsInTurn x = new AuntsInTurn();
        check.due("plan(1, 0) without aunts", x.plan(1, 0), -1);
        check.due("plan(2, 0) without aunts", x.plan(2, 0), -1);
        check.due("plan(3, 0) without askers", x.plan(3, 0), -1);
        x.aunt(0, 0, 0);
        x.aunt(0, 0, 0);
        x.asker();
        check.due("plan(1, 2)", x.plan(1, 2), -1);
        check.due("plan(2, -1)", x.plan(2, -1), -1);
        check.due("plan(3, 1)", x.plan(3, 1), -1);
        check.due("plan(3, -1)", x.plan(3, -1), -1);
        check.due("plan(4, 0)", x.plan(4, 0), -1);
        check.due("plan(-2, 0)", x.plan(-2, 0), -1);
        check.due("no rows", x.count(4), 0);
        check.due("done(2)", x.done(2), -1);
        check.due("done(-1)", x.done(-1), -1);
    }

    private static void done(AuntsInTurn x, int back, int through) {
        check.due("done(0)", x.done(0), back);
        check.due("done(1)", x.done(1), through);
    }

    /** Two aunts: 0 of weight 5, then 1 of weight 9; two askers at the first, NERVE 12. */
    private static AuntsInTurn two() {
        AuntsInTurn x = new AuntsInTurn();
        x.aunt(0, 0, 1);
        x.aunt(0, 0, 2);
        x.weigh(0, 5);
        x.weigh(1, 9);
        x.asker();
        x.asker();
        x.begin(1, 1);
        return x;
    }

    private static void doneByDays() {
        AuntsInTurn x = two();
        done(x, 0, 0);
        x.plan(0, 0);
        done(x, 0, 0);
        x.plan(0, 0);
        done(x, 1, 1);
        x.plan(0, 0);
        done(x, 1, 1);
        x.pass(2);
        done(x, 1, 1);
        x.plan(-1, 0);
        done(x, 1, 1);
        AuntsInTurn y = new AuntsInTurn();
        y.asker();
        done(y, 0, 1);
    }

    private static void doneByThoseAway() {
        AuntsInTurn x = two();
        x.plan(0, 0);
        x.plan(1, 1);
        x.plan(0, 0);
        done(x, 0, 2);
        x.plan(-1, 0);
        x.plan(1, 0);
        x.plan(0, 0);
        x.plan(2, 0);
        x.plan(0, 0);
        done(x, 0, 2);
        check.due("AWAY as it was", x.told(2), 0);
        x.away(1, true);
        x.plan(-1, 0);
        x.plan(0, 0);
        x.plan(0, 0);
        done(x, 0, 2);
        x.plan(-1, 0);
        x.plan(2, 1);
        x.plan(0, 0);
        x.plan(0, 0);
        done(x, 1, 1);
        check.due("AWAY as it was", x.told(2), 2);
    }

    private static void doneByBeginning() {
        AuntsInTurn x = two();
        x.pass(2);
        x.plan(3, 0);
        done(x, 0, 1);
        x.plan(0, 0);
        x.plan(0, 0);
        // what it HEARD stays: it hears nothing new now
        done(x, 0, 2);
        x.plan(3, 1);
        done(x, 0, 1);
        AuntsInTurn y = two();
        y.pass(1);
        y.plan(3, 0);
        y.plan(0, 0);
        y.plan(0, 0);
        // SHOCK is 0 again
        done(y, 0, 2);
    }

    private static void doneChangesNothing() {
        AuntsInTurn x = two();
        x.plan(1, 0);
        x.plan(0, 0);
        x.plan(0, 0);
        x.plan(3, 1);
        done(x, 0, 1);
        check.due("DAY", x.told(0), 0);
        check.due("AWAY", x.told(2), 0);
        check.due("PLACE", x.at(0, 2), 0);
        check.due("HEARD", x.at(0, 0), 0);
        check.due("rows", x.count(4), 4);
    }

    private static void book() {
        AuntsInTurn x = new AuntsInTurn();
        check.due("book(-1) of none", x.book(-1, 0), 0);
        check.due("book(0, 0) without askers", x.book(0, 0), -1);
        x.asker();
        check.due("book(1, 256)", x.book(1, 256), -1);
        check.due("book(-2, 0)", x.book(-2, 0), -1);
        check.due("book(0, 256)", x.book(0, 256), -2);
        check.due("book(0, -1)", x.book(0, -1), -2);
        for (int i = 1; i <= 8; i++) {
            check.due("book(0, 255)", x.book(0, 255), i);
        }
        check.due("FULL", x.book(0, 0), -4);
        check.due("NONE ahead of FULL", x.book(1, 0), -1);
        check.due("BAD ahead of FULL", x.book(0, 256), -2);
        check.due("rows", x.count(5), 8);
        check.due("book(-1, 999)", x.book(-1, 999), 0);
        check.due("rows then", x.count(5), 0);
        check.due("book again", x.book(0, 0), 1);
    }

    private static void looked() {
        AuntsInTurn x = two();
        check.due("looked at nothing", x.looked(), -5);
        x.book(0, 0);
        x.book(1, 1);
        check.due("all as booked", x.looked(), -5);
        x.book(0, 1);
        check.due("the third is otherwise", x.looked(), 2);
        x.pass(1);
        check.due("the first is otherwise now", x.looked(), 0);
        x.book(-1, 0);
        x.book(0, 1);
        x.book(1, 3);
        check.due("the second is otherwise", x.looked(), 1);
        x.pass(1);
        check.due("the first again", x.looked(), 0);
        x.begin(0, 1);
        check.due("all as booked again", x.looked(), -5);
    }
}
