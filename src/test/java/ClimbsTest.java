/** Promises 17 to 20: CLIMB, ORDER, HUSH, WHOLE. */
public final class ClimbsTest {
    private static final Check check = new Check();

    public static void main(String[] args) {
        climb();
        climbBack();
        climbRefused();
        order();
        orderByShock();
        orderByRow();
        orderBack();
        orderPastThoseAway();
        orderOfSix();
        orderRefused();
        hush();
        hushByTurns();
        whole();
        check.end();
    }

    private static AuntsInTurn aunts(int... knows) {
        AuntsInTurn x = new AuntsInTurn();
        for (int i = 0; i < knows.length; i++) {
            x.aunt(0, i, knows[i]);
        }
        return x;
    }

    private static void climb(AuntsInTurn x, int way, int from, int heard, int shock, int back) {
        String call = "climb(" + way + ", " + from + ", ";
        check.due(call + "0)", x.climb(way, from, 0), heard);
        check.due(call + "1)", x.climb(way, from, 1), shock);
        check.due(call + "2)", x.climb(way, from, 2), back);
    }

    private static void climb() {
        AuntsInTurn none = new AuntsInTurn();
        climb(none, 0, 9, 9, 0, -5);
        climb(none, 1, 9, 9, 0, -5);
        AuntsInTurn x = aunts(3, 1);
        x.weigh(1, 3);
        climb(x, 0, 0, 1, 1, -5);
        climb(x, 1, 0, 3, 4, -5);
        climb(x, 0, 1, 3, 3, -5);
        climb(x, 0, 3, 3, 0, -5);
        x.away(0, true);
        climb(x, 0, 0, 1, 1, -5);
        climb(x, 1, 0, 1, 1, -5);
        x.away(1, true);
        climb(x, 1, 128, 128, 0, -5);
        check.due("nothing is changed", x.told(0), 0);
    }

    private static void climbBack() {
        AuntsInTurn x = aunts(1, 2, 4);
        Check.valley(x, "nerve 1");
        climb(x, 0, 0, 3, 2, 1);
        climb(x, 1, 0, 6, 2, 1);
        climb(x, 0, 1, 7, 2, 2);
        climb(x, 0, 3, 7, 1, -5);
        x.weigh(2, 9);
        climb(x, 1, 0, 4, 9, 2);
        climb(x, 0, 0, 3, 2, 1);
        x.away(1, true);
        climb(x, 0, 0, 5, 10, 2);
        AuntsInTurn y = aunts(0, 1);
        Check.valley(y, "nerve 0");
        climb(y, 0, 0, 1, 1, 1);
        y.asker();
        y.pass(2);
        // an asker's SHOCK is not the climber's
        climb(y, 0, 1, 1, 0, -5);
    }

    private static void climbRefused() {
        AuntsInTurn x = aunts(3, 1);
        check.due("climb(2, 0, 0)", x.climb(2, 0, 0), -1);
        check.due("climb(-1, 0, 0)", x.climb(-1, 0, 0), -1);
        check.due("climb(0, 0, 3)", x.climb(0, 0, 3), -1);
        check.due("climb(0, 0, -1)", x.climb(0, 0, -1), -1);
        check.due("climb(0, 256, 0)", x.climb(0, 256, 0), -2);
        check.due("climb(0, -1, 0)", x.climb(0, -1, 0), -2);
        check.due("climb(2, 256, 0)", x.climb(2, 256, 0), -1);
        check.due("climb(0, 256, 3)", x.climb(0, 256, 3), -1);
    }

    private static void order(AuntsInTurn x, int from, int facts, int shock, int... row) {
        check.due("order(" + from + ", 0)", x.order(from, 0), facts);
        check.due("order(" + from + ", 1)", x.order(from, 1), shock);
        for (int k = 0; k < 6; k++) {
            check.due("order(" + from + ", " + (10 + k) + ")", x.order(from, 10 + k), k < row.length ? row[k] : -5);
        }
    }

    private static void order() {
        order(new AuntsInTurn(), 7, 3, 0);
        order(aunts(1), 0, 1, 1, 0);
        order(aunts(3, 1), 0, 2, 2, 1, 0);
        order(aunts(3, 1), 64, 3, 2, 1, 0);
        // 1 heard already: the order does not matter
        order(aunts(3, 1), 1, 2, 1, 0, 1);
        // each says her least that is left: the one of one fact, then the one of two, and so on
        order(aunts(7, 3, 1), 0, 3, 3, 2, 1, 0);
        order(aunts(3, 1, 4), 0, 3, 3, 1, 0, 2);
    }

    private static AuntsInTurn meek() {
        AuntsInTurn x = new AuntsInTurn();
        x.aunt(2, 1, 1);
        x.aunt(2, 1, 2);
        return x;
    }

    private static void orderByShock() {
        // only the first of the two says anything
        AuntsInTurn x = meek();
        x.weigh(0, 5);
        order(x, 0, 1, 1, 1, 0);
        x.weigh(1, 6);
        order(x, 0, 1, 5, 0, 1);
        // most facts come ahead of the least shock
        x.aunt(0, 0, 1);
        x.weigh(0, 5);
        x.weigh(1, 6);
        order(x, 0, 2, 11, 1, 0, 2);
    }

    private static void orderByRow() {
        order(meek(), 0, 1, 1, 0, 1);
        order(aunts(1, 1, 1), 0, 1, 1, 0, 1, 2);
        order(aunts(1, 2, 4, 8, 16, 32), 0, 6, 6, 0, 1, 2, 3, 4, 5);
        order(aunts(3, 3, 3), 0, 2, 2, 0, 1, 2);
    }

    private static void orderBack() {
        AuntsInTurn x = meek();
        x.weigh(0, 9);
        Check.valley(x, "nerve 8");
        order(x, 0, 1, 1, 1, 0);
        x.weigh(1, 9);
        for (int what : new int[] {0, 1, 10, 11, 12, 15}) {
            check.due("by each order BACK: " + what, x.order(0, what), -5);
        }
        order(x, 1, 1, 0, 0, 1);
        // at NERVE is not above it
        x.weigh(0, 8);
        order(x, 0, 1, 8, 0, 1);
    }

    private static void orderPastThoseAway() {
        // she who is away stands in the row, but a climb does not come to her
        AuntsInTurn x = aunts(3, 1, 3);
        x.away(0, true);
        order(x, 0, 2, 2, 0, 1, 2);
        x.away(2, true);
        order(x, 0, 1, 1, 0, 1, 2);
        AuntsInTurn y = aunts(1, 3, 1);
        y.away(0, true);
        order(y, 0, 2, 2, 0, 2, 1);
    }

    private static void orderOfSix() {
        order(aunts(63, 31, 15, 7, 3, 1), 0, 6, 6, 5, 4, 3, 2, 1, 0);
        AuntsInTurn x = aunts(255, 255, 255, 255, 255, 255);
        for (int fact = 0; fact < 8; fact++) {
            x.weigh(fact, 9);
        }
        Check.valley(x, "nerve 99;bold 1 h>3;bold 7 p=5");
        // 72 of SHOCK, the most that there can be
        order(x, 0, 8, 72, 0, 1, 2, 3, 4, 5);
    }

    private static void orderRefused() {
        AuntsInTurn x = aunts(3, 1);
        for (int what : new int[] {-1, 2, 9, 16, Integer.MIN_VALUE, Integer.MAX_VALUE}) {
            check.due("order(0, " + what + ")", x.order(0, what), -1);
            check.due("order(256, " + what + ")", x.order(256, what), -1);
        }
        check.due("order(256, 0)", x.order(256, 0), -2);
        check.due("order(-1, 10)", x.order(-1, 10), -2);
    }

    private static void hush() {
        check.due("hush where there are no aunts", new AuntsInTurn().hush(0), 0);
        AuntsInTurn x = aunts(1, 1, 2);
        check.due("hush(0)", x.hush(0), 3);
        check.due("hush(1)", x.hush(1), 4);
        check.due("hush(2)", x.hush(2), 0);
        x.away(0, true);
        check.due("hush(0), 0 being away", x.hush(0), 2);
        x.away(1, true);
        check.due("hush(0), both being away", x.hush(0), 0);
        check.due("hush(8)", x.hush(8), -1);
        check.due("hush(-1)", x.hush(-1), -1);
        check.due("AWAY as it was", x.told(2), 3);
    }

    private static void hushByTurns() {
        // fact 1 is said by the second only where the first said 0
        AuntsInTurn x = aunts(1, 3);
        check.due("hush(1), the least of two", x.hush(1), 1);
        check.due("hush(0)", x.hush(0), 3);
        AuntsInTurn y = aunts(4, 1, 3);
        check.due("hush(1) by 2 or 4", y.hush(1), 2);
        // one who turns climbers back hushes those behind her: with her away they are heard
        AuntsInTurn z = aunts(1, 2);
        z.weigh(0, 9);
        Check.valley(z, "nerve 5");
        check.due("hush(1) by nobody away", z.hush(1), 0);
        check.due("hush(0)", z.hush(0), 1);
    }

    private static void whole() {
        AuntsInTurn none = new AuntsInTurn();
        check.due("whole(0) of none", none.whole(0), 0);
        check.due("whole(1) of none", none.whole(1), 0);
        AuntsInTurn x = aunts(3, 12, 7, 8);
        check.due("whole(0)", x.whole(0), 3);
        check.due("whole(1)", x.whole(1), 4);
        x.away(0, true);
        check.due("AWAY or not", x.whole(0), 3);
        x.learn(0, 1);
        check.due("the least of several", x.whole(0), 6);
        x.aunt(0, 0, 15);
        check.due("one is enough", x.whole(0), 16);
        x.learn(3, 128);
        check.due("all that all know", x.whole(0), 24);
        check.due("how many", x.whole(1), 5);
        check.due("of aunts who know nothing", aunts(0, 0).whole(0), 0);
        check.due("each of six", aunts(1, 2, 4, 8, 16, 32).whole(0), 63);
        check.due("whole(2)", x.whole(2), -1);
        check.due("whole(-1)", x.whole(-1), -1);
    }
}
