/** Promises 11 to 16: ASKERS, how DAYS go, what is told of all, ON days to come. */
public final class AskersTest {
    private static final Check check = new Check();

    public static void main(String[] args) {
        asker();
        at();
        days();
        severalAskers();
        turnsBack();
        awayAunts();
        lowerNerve();
        begin();
        told();
        pass();
        lateDays();
        comes();
        on();
        onByDays();
        check.end();
    }

    private static void asker() {
        AuntsInTurn x = new AuntsInTurn();
        for (int i = 0; i < 5; i++) {
            check.due("asker", x.asker(), i);
            for (int what = 0; what < 5; what++) {
                check.due("a new asker's " + what, x.at(i, what), 0);
            }
        }
        check.due("FULL", x.asker(), -4);
        check.due("askers", x.count(1), 5);
    }

    private static void at() {
        AuntsInTurn x = new AuntsInTurn();
        x.asker();
        check.due("at(1, 0)", x.at(1, 0), -1);
        check.due("at(-1, 0)", x.at(-1, 0), -1);
        check.due("at(0, 5)", x.at(0, 5), -1);
        check.due("at(0, -1)", x.at(0, -1), -1);
    }

    private static void asker(AuntsInTurn x, int asker, int heard, int shock, int place, int back) {
        check.due("heard by " + asker, x.at(asker, 0), heard);
        check.due("shock of " + asker, x.at(asker, 1), shock);
        check.due("place of " + asker, x.at(asker, 2), place);
        check.due("back " + asker, x.at(asker, 3), back);
    }

    /** An AUNT of facts 0 and 1, an AUNT of fact 2, a SLY of fact 7; weights 4, 6, 7 and the one given. */
    private static AuntsInTurn three(int weightOf7) {
        AuntsInTurn x = new AuntsInTurn();
        x.aunt(0, 0, 3);
        x.aunt(0, 0, 4);
        x.aunt(3, 0, 128);
        x.weigh(0, 4);
        x.weigh(1, 6);
        x.weigh(2, 7);
        x.weigh(7, weightOf7);
        x.asker();
        return x;
    }

    private static void days() {
        AuntsInTurn x = three(1);
        check.due("pass(1)", x.pass(1), 1);
        asker(x, 0, 1, 4, 1, 0);
        x.pass(1);
        asker(x, 0, 5, 11, 2, 0);
        check.due("nobody is THROUGH", x.told(3), 0);
        x.pass(1);
        // SHOCK is at NERVE, not above it
        asker(x, 0, 133, 12, 3, 0);
        check.due("one is THROUGH", x.told(3), 1);
        check.due("pass(60)", x.pass(60), 63);
        asker(x, 0, 133, 12, 3, 0);
        x.aunt(0, 0, 3);
        check.due("not THROUGH by one aunt more", x.told(3), 0);
        x.pass(1);
        asker(x, 0, 135, 18, 3, 1);
    }

    private static void severalAskers() {
        AuntsInTurn x = three(1);
        x.pass(1);
        x.asker();
        x.pass(1);
        asker(x, 0, 5, 11, 2, 0);
        asker(x, 1, 1, 4, 1, 0);
        x.begin(0, 1);
        x.pass(1);
        asker(x, 0, 3, 6, 1, 0);
        asker(x, 1, 5, 11, 2, 0);
        x.pass(1);
        asker(x, 0, 7, 13, 1, 1);
        asker(x, 1, 133, 12, 3, 0);
        check.due("THROUGH", x.told(3), 1);
        check.due("BACK", x.told(4), 1);
    }

    private static void turnsBack() {
        AuntsInTurn x = three(2);
        x.pass(3);
        asker(x, 0, 133, 13, 2, 1);
        check.due("BACK", x.told(4), 1);
        check.due("THROUGH", x.told(3), 0);
        x.learn(2, 255);
        x.pass(5);
        asker(x, 0, 133, 13, 2, 1);
        Check.valley(x, "nerve 99");
        x.pass(1);
        asker(x, 0, 133, 13, 2, 1);
    }

    private static void awayAunts() {
        AuntsInTurn x = three(9);
        x.away(1, true);
        x.pass(2);
        asker(x, 0, 1, 4, 2, 0);
        x.away(2, true);
        Check.valley(x, "nerve 0");
        x.pass(1);
        asker(x, 0, 1, 4, 3, 0);
        check.due("THROUGH past one who is away", x.told(3), 1);
    }

    private static void lowerNerve() {
        AuntsInTurn x = three(9);
        x.pass(1);
        x.learn(1, 0);
        Check.valley(x, "nerve 3");
        x.pass(1);
        // SHOCK is above NERVE though she SAYS nothing
        asker(x, 0, 1, 4, 1, 1);
        AuntsInTurn y = new AuntsInTurn();
        y.aunt(0, 0, 0);
        y.asker();
        Check.valley(y, "nerve 0");
        y.pass(1);
        asker(y, 0, 0, 0, 1, 0);
    }

    private static void begin() {
        AuntsInTurn x = three(2);
        x.pass(3);
        check.due("begin", x.begin(0, 4), 133);
        asker(x, 0, 4, 0, 0, 0);
        x.pass(2);
        asker(x, 0, 5, 4, 2, 0);
        check.due("begin with all", x.begin(0, 255), 5);
        check.due("begin with none", x.begin(0, 0), 255);
        check.due("begin(1, 0)", x.begin(1, 0), -1);
        check.due("begin(-1, 256)", x.begin(-1, 256), -1);
        check.due("begin(0, 256)", x.begin(0, 256), -2);
        check.due("begin(0, -1)", x.begin(0, -1), -2);
        asker(x, 0, 0, 0, 0, 0);
    }

    private static void told() {
        AuntsInTurn x = three(2);
        x.pass(7);
        check.due("DAY", x.told(0), 7);
        for (int what : new int[] {-1, 5, 9, 18, Integer.MAX_VALUE, Integer.MIN_VALUE}) {
            check.due("told(" + what + ")", x.told(what), -1);
        }
        check.due("WEIGHT of 1", x.told(11), 6);
        AuntsInTurn y = new AuntsInTurn();
        y.asker();
        y.asker();
        check.due("THROUGH where there are no aunts", y.told(3), 2);
    }

    private static void pass() {
        AuntsInTurn x = new AuntsInTurn();
        check.due("pass(0)", x.pass(0), 0);
        check.due("pass(-1)", x.pass(-1), -2);
        check.due("pass(61)", x.pass(61), -2);
        check.due("pass(60)", x.pass(60), 60);
        for (int i = 2; i <= 166; i++) {
            check.due("pass(60)", x.pass(60), 60 * i);
        }
        check.due("pass(40) above 9999", x.pass(40), -3);
        check.due("DAY stays", x.told(0), 9960);
        check.due("pass(39)", x.pass(39), 9999);
        check.due("pass(1) above 9999", x.pass(1), -3);
        check.due("BAD ahead of STATE", x.pass(61), -2);
        check.due("pass(0) at 9999", x.pass(0), 9999);
    }

    private static void lateDays() {
        AuntsInTurn x = new AuntsInTurn();
        for (int i = 0; i < 166; i++) {
            x.pass(60);
        }
        x.pass(39);
        x.aunt(6, 0, 7);
        x.aunt(6, 0, 7);
        x.row(0, 3, 1);
        x.row(1, 0, 2);
        x.asker();
        Check.valley(x, "shy 1 p<9;bold 1 d=0");
        // on DAY 9999 fact 0 by her ROW; on DAY 10000 fact 1 by her ROW, and 2 as d is 0 then
        check.due("ON 2 days", x.on(2, 10), 7);
        check.due("COMES", x.at(0, 4), 7);
        check.due("pass is refused", x.pass(1), -3);
    }

    private static void comes() {
        AuntsInTurn x = three(1);
        check.due("COMES from the start", x.at(0, 4), 133);
        x.pass(2);
        check.due("COMES from on the way", x.at(0, 4), 133);
        check.due("nothing is changed", x.told(0), 2);
        asker(x, 0, 5, 11, 2, 0);
        x.pass(1);
        check.due("COMES of one who is THROUGH", x.at(0, 4), 133);
        AuntsInTurn y = three(2);
        check.due("COMES, BACK ahead of that", y.at(0, 4), -5);
        y.away(0, true);
        check.due("COMES past one who is away", y.at(0, 4), 132);
        y.away(0, false);
        y.pass(3);
        check.due("COMES, BACK now", y.at(0, 4), -5);
        AuntsInTurn z = new AuntsInTurn();
        for (int i = 0; i < 6; i++) {
            z.aunt(0, 0, 1 << i);
        }
        z.asker();
        check.due("COMES past six", z.at(0, 4), 63);
    }

    private static void on() {
        AuntsInTurn x = three(2);
        x.asker();
        x.begin(1, 128);
        check.due("ON 0: BACK", x.on(0, 0), 0);
        check.due("ON 0: HEARD", x.on(0, 11), 128);
        check.due("ON 1: HEARD", x.on(1, 10), 1);
        check.due("ON 1: PLACE", x.on(1, 20), 1);
        check.due("ON 1: SHOCK", x.on(1, 30), 4);
        check.due("ON 3: BACK", x.on(3, 0), 1);
        check.due("ON 60: HEARD", x.on(60, 10), 133);
        check.due("ON 60: PLACE", x.on(60, 20), 2);
        check.due("ON 60: SHOCK", x.on(60, 30), 13);
        check.due("ON 60: PLACE of 1", x.on(60, 21), 3);
        check.due("ON 60: SHOCK of 1", x.on(60, 31), 11);
        check.due("nothing is changed", x.told(0), 0);
        asker(x, 0, 0, 0, 0, 0);
        for (int what : new int[] {-1, 1, 9, 12, 15, 19, 22, 29, 32, 39, 40, 41, 100, -10, Integer.MIN_VALUE}) {
            check.due("on(1, " + what + ")", x.on(1, what), -1);
            check.due("on(61, " + what + ")", x.on(61, what), -1);
        }
        check.due("on(61, 0)", x.on(61, 0), -2);
        check.due("on(-1, 10)", x.on(-1, 10), -2);
    }

    private static void onByDays() {
        for (int n = 0; n < 8; n++) {
            AuntsInTurn x = three(n % 3);
            x.asker();
            x.pass(1);
            x.away(n % 3, true);
            int[] ahead = {x.on(n, 10), x.on(n, 20), x.on(n, 30), x.on(n, 11), x.on(n, 21), x.on(n, 31), x.on(n, 0)};
            x.pass(n);
            asker(x, 0, ahead[0], ahead[2], ahead[1], x.at(0, 3));
            asker(x, 1, ahead[3], ahead[5], ahead[4], x.at(1, 3));
            check.due("BACK as foretold", x.told(4), ahead[6]);
        }
    }
}
