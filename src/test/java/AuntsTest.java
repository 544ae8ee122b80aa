/** Promises 1 and 4 to 10: a new object, AUNTS, what they SAY, ROW, learn, away, weigh. */
public final class AuntsTest {
    private static final Check check = new Check();
    /** Facts 1, 2, 4, 5 and 7. */
    private static final int SOME = 182;

    public static void main(String[] args) {
        newObject();
        aunt();
        of();
        saysRefused();
        saysAunt();
        saysBlunt();
        saysMeek();
        saysSly();
        saysPious();
        saysBaker();
        saysTold();
        row();
        learn();
        away();
        weigh();
        check.end();
    }

    private static void newObject() {
        AuntsInTurn x = new AuntsInTurn();
        for (int what = 0; what < 8; what++) {
            check.due("count(" + what + ")", x.count(what), 0);
        }
        check.due("DAY", x.told(0), 0);
        check.due("NERVE", x.told(1), 12);
        check.due("AWAY", x.told(2), 0);
        check.due("THROUGH", x.told(3), 0);
        check.due("BACK", x.told(4), 0);
        for (int fact = 0; fact < 8; fact++) {
            check.due("WEIGHT of " + fact, x.told(10 + fact), 1);
        }
        check.due("undo", x.undo(), -3);
        check.due("trace(0)", x.trace(0), -1);
        check.due("of(0, 0)", x.of(0, 0), -1);
        check.due("at(0, 0)", x.at(0, 0), -1);
        check.due("looked", x.looked(), -5);
    }

    private static void aunt() {
        AuntsInTurn x = new AuntsInTurn();
        check.due("aunt(-1)", x.aunt(-1, 0, 0), -1);
        check.due("aunt(7)", x.aunt(7, 0, 0), -1);
        check.due("NONE ahead of BAD", x.aunt(7, 10, 256), -1);
        check.due("v -1", x.aunt(0, -1, 0), -2);
        check.due("v 10", x.aunt(0, 10, 0), -2);
        check.due("knows -1", x.aunt(0, 0, -1), -2);
        check.due("knows 256", x.aunt(0, 0, 256), -2);
        check.due("no aunt yet", x.count(0), 0);
        for (int i = 0; i < 6; i++) {
            check.due("aunt " + i, x.aunt(i + 1, 9, 255), i);
        }
        check.due("aunts", x.count(0), 6);
        check.due("FULL", x.aunt(0, 0, 0), -4);
        check.due("NONE ahead of FULL", x.aunt(7, 0, 0), -1);
        check.due("BAD ahead of FULL", x.aunt(0, 10, 0), -2);
        check.due("aunts still", x.count(0), 6);
    }

    private static void of() {
        AuntsInTurn x = new AuntsInTurn();
        for (int kind = 0; kind < 6; kind++) {
            x.aunt(kind, 9 - kind, 10 * kind);
        }
        for (int kind = 0; kind < 6; kind++) {
            check.due("KIND", x.of(kind, 0), kind);
            check.due("v", x.of(kind, 1), 9 - kind);
            check.due("KNOWS", x.of(kind, 2), 10 * kind);
            check.due("AWAY", x.of(kind, 3), 0);
        }
        check.due("of(6, 0)", x.of(6, 0), -1);
        check.due("of(-1, 0)", x.of(-1, 0), -1);
        check.due("of(0, 4)", x.of(0, 4), -1);
        check.due("of(0, -1)", x.of(0, -1), -1);
        AuntsInTurn y = new AuntsInTurn();
        y.aunt(6, 0, 255);
        check.due("KIND of a TOLD one", y.of(0, 0), 6);
    }

    /** One aunt, a BLUNT-wise heaviest first 1, 5, 7, then 2 and 4, and so many told at once. */
    private static AuntsInTurn one(int kind, int v, int mouth) {
        AuntsInTurn x = new AuntsInTurn();
        x.aunt(kind, v, SOME);
        x.weigh(1, 9);
        x.weigh(5, 9);
        x.weigh(7, 3);
        check.due("a mouth of " + mouth, Check.valley(x, "nerve 99;bold " + (mouth - 1) + " p<9"), 0);
        return x;
    }

    private static void saysRefused() {
        AuntsInTurn x = one(0, 0, 1);
        check.due("says(1, 0, 0)", x.says(1, 0, 0), -1);
        check.due("says(-1, 0, 0)", x.says(-1, 0, 0), -1);
        check.due("says(0, 0, 3)", x.says(0, 0, 3), -1);
        check.due("says(0, 0, -1)", x.says(0, 0, -1), -1);
        check.due("says(0, 256, 0)", x.says(0, 256, 0), -2);
        check.due("says(0, -1, 1)", x.says(0, -1, 1), -2);
        check.due("says(0, 256, 3)", x.says(0, 256, 3), -1);
        check.due("says(1, 256, 2)", x.says(1, 256, 2), -1);
        check.due("says(0, 255, 2)", x.says(0, 255, 2), 0);
    }

    private static void saysAunt() {
        check.due("LEFT", one(0, 0, 3).says(0, 2, 0), 180);
        check.due("LEFT, some of it not known", one(0, 0, 3).says(0, 73, 0), 182);
        check.due("MOUTH", one(0, 0, 3).says(0, 2, 1), 3);
        check.due("AUNT says 1", one(0, 0, 1).says(0, 0, 2), 2);
        check.due("AUNT says 3", one(0, 0, 3).says(0, 0, 2), 22);
        check.due("AUNT says 3 of what is left", one(0, 0, 3).says(0, 2, 2), 52);
        check.due("AUNT says all if fewer", one(0, 0, 3).says(0, 54, 2), 128);
        check.due("AUNT says all", one(0, 0, 99).says(0, 0, 2), 182);
        AuntsInTurn x = one(0, 0, 1);
        x.away(0, true);
        check.due("AWAY or not", x.says(0, 0, 2), 2);
        Check.valley(x, "shy 1 p=0");
        check.due("a shut mouth", x.says(0, 0, 2), 0);
    }

    private static void saysBlunt() {
        check.due("BLUNT says the heaviest, of several the least", one(1, 0, 1).says(0, 0, 2), 2);
        check.due("BLUNT says 2", one(1, 0, 2).says(0, 0, 2), 34);
        check.due("BLUNT says 3", one(1, 0, 3).says(0, 0, 2), 162);
        check.due("BLUNT says 4", one(1, 0, 4).says(0, 0, 2), 166);
        check.due("BLUNT says of what is left", one(1, 0, 2).says(0, 2, 2), 160);
        AuntsInTurn x = one(1, 0, 4);
        x.weigh(2, 0);
        check.due("WEIGHT 0 comes last", x.says(0, 0, 2), 178);
        check.due("WEIGHT 0 comes", x.says(0, 178, 2), 4);
    }

    private static void saysMeek() {
        check.due("MEEK by nothing heard", one(2, 2, 3).says(0, 0, 2), 22);
        check.due("MEEK by 1 heard", one(2, 2, 3).says(0, 1, 2), 22);
        check.due("MEEK by 1 heard that she knows", one(2, 2, 3).says(0, 2, 2), 52);
        check.due("MEEK by v heard", one(2, 2, 3).says(0, 9, 2), 0);
        check.due("MEEK by more heard", one(2, 2, 3).says(0, 73, 2), 0);
        check.due("MEEK of v 0", one(2, 0, 3).says(0, 0, 2), 0);
        check.due("MEEK's LEFT", one(2, 0, 3).says(0, 0, 0), 182);
        check.due("MEEK's MOUTH", one(2, 0, 3).says(0, 0, 1), 3);
    }

    private static void saysSly() {
        check.due("SLY says 1", one(3, 0, 1).says(0, 0, 2), 128);
        check.due("SLY says 3", one(3, 0, 3).says(0, 0, 2), 176);
        check.due("SLY says of what is left", one(3, 0, 3).says(0, 128, 2), 52);
        check.due("SLY says all if fewer", one(3, 0, 3).says(0, 180, 2), 2);
        AuntsInTurn x = one(3, 0, 3);
        x.learn(0, 3);
        check.due("SLY says 0, too", x.says(0, 0, 2), 3);
    }

    private static void saysPious() {
        check.due("PIOUS without 5", one(4, 5, 3).says(0, 0, 2), 130);
        check.due("PIOUS without 1", one(4, 1, 3).says(0, 0, 2), 160);
        check.due("PIOUS v 9 is 1", one(4, 9, 3).says(0, 0, 2), 160);
        check.due("PIOUS v 8 is 0", one(4, 8, 3).says(0, 0, 2), 162);
        check.due("PIOUS, not among them", one(4, 4, 3).says(0, 0, 2), 162);
        check.due("PIOUS, none in its place", one(4, 1, 1).says(0, 0, 2), 0);
    }

    private static void saysBaker() {
        check.due("BAKER and 0", one(5, 2, 3).says(0, 0, 2), 23);
        check.due("BAKER, 0 is heard", one(5, 2, 3).says(0, 1, 2), 22);
        check.due("BAKER by v heard", one(5, 2, 3).says(0, 6, 2), 1);
        check.due("BAKER by v heard, 0 too", one(5, 2, 3).says(0, 7, 2), 0);
        AuntsInTurn x = one(5, 9, 1);
        x.learn(0, 3);
        check.due("BAKER knows 0", x.says(0, 0, 2), 1);
        x.learn(0, 0);
        check.due("BAKER knows nothing", x.says(0, 0, 2), 1);
        check.due("BAKER's LEFT", x.says(0, 0, 0), 0);
        Check.valley(x, "shy 1 p=0");
        check.due("BAKER of a shut mouth", x.says(0, 128, 2), 1);
    }

    private static void saysTold() {
        AuntsInTurn x = one(6, 0, 3);
        check.due("TOLD as SLY", x.says(0, 0, 2), 176);
        x.row(0, 0, 9);
        check.due("TOLD, not left", x.says(0, 0, 2), 176);
        x.row(0, 0, 6);
        check.due("TOLD by her ROW", x.says(0, 0, 2), 182);
        check.due("TOLD as far as they are left", x.says(0, 2, 2), 180);
        x.row(0, 1, 2);
        x.row(0, 2, 4);
        x.row(0, 3, 0);
        x.pass(1);
        check.due("TOLD on DAY 1", x.says(0, 0, 2), 178);
        x.pass(1);
        check.due("TOLD on DAY 2", x.says(0, 0, 2), 180);
        x.pass(1);
        check.due("TOLD on DAY 3", x.says(0, 0, 2), 176);
        x.pass(1);
        check.due("TOLD on DAY 4", x.says(0, 0, 2), 182);
        Check.valley(x, "shy 1 p=0");
        check.due("TOLD of a shut mouth", x.says(0, 0, 2), 6);
    }

    private static void row() {
        AuntsInTurn x = new AuntsInTurn();
        x.aunt(6, 0, 255);
        x.aunt(3, 0, 255);
        for (int k = 0; k < 4; k++) {
            check.due("ROW at first", x.row(0, k, 9 - k), 0);
        }
        for (int k = 0; k < 4; k++) {
            check.due("ROW as it was", x.row(0, k, 0), 9 - k);
        }
        check.due("row(2, 0, 0)", x.row(2, 0, 0), -1);
        check.due("row(-1, 0, 0)", x.row(-1, 0, 0), -1);
        check.due("row(0, 4, 0)", x.row(0, 4, 0), -1);
        check.due("row(0, -1, 0)", x.row(0, -1, 0), -1);
        check.due("row(0, 0, 10)", x.row(0, 0, 10), -2);
        check.due("row(0, 0, -1)", x.row(0, 0, -1), -2);
        check.due("row(0, 4, 10)", x.row(0, 4, 10), -1);
        check.due("row(1, 4, 10)", x.row(1, 4, 10), -1);
        check.due("row(1, 0, 10)", x.row(1, 0, 10), -2);
        check.due("row(1, 0, 0)", x.row(1, 0, 0), -3);
        check.due("refusals change nothing", x.row(0, 0, 1), 0);
    }

    private static void learn() {
        AuntsInTurn x = new AuntsInTurn();
        x.aunt(0, 0, 7);
        check.due("learn", x.learn(0, 255), 7);
        check.due("learn nothing", x.learn(0, 0), 255);
        check.due("what she KNOWS", x.of(0, 2), 0);
        check.due("learn(1, 0)", x.learn(1, 0), -1);
        check.due("learn(-1, 256)", x.learn(-1, 256), -1);
        check.due("learn(0, 256)", x.learn(0, 256), -2);
        check.due("learn(0, -1)", x.learn(0, -1), -2);
        check.due("refusals change nothing", x.of(0, 2), 0);
    }

    private static void away() {
        AuntsInTurn x = new AuntsInTurn();
        x.aunt(0, 0, 7);
        x.aunt(0, 0, 7);
        x.aunt(0, 0, 7);
        check.due("away(1, false)", x.away(1, false), 0);
        check.due("away(1, true)", x.away(1, true), 0);
        check.due("away(1, true) again", x.away(1, true), 1);
        check.due("of(1, 3)", x.of(1, 3), 1);
        check.due("of(0, 3)", x.of(0, 3), 0);
        check.due("AWAY bits", x.told(2), 2);
        check.due("away(2, true)", x.away(2, true), 0);
        check.due("AWAY bits of two", x.told(2), 6);
        check.due("away(1, false)", x.away(1, false), 1);
        check.due("AWAY bits of one", x.told(2), 4);
        check.due("away(3, true)", x.away(3, true), -1);
        check.due("away(-1, true)", x.away(-1, true), -1);
        check.due("AWAY bits still", x.told(2), 4);
    }

    private static void weigh() {
        AuntsInTurn x = new AuntsInTurn();
        check.due("weigh(0, 9)", x.weigh(0, 9), 1);
        check.due("weigh(0, 0)", x.weigh(0, 0), 9);
        check.due("weigh(7, 5)", x.weigh(7, 5), 1);
        check.due("told(10)", x.told(10), 0);
        check.due("told(17)", x.told(17), 5);
        check.due("told(16)", x.told(16), 1);
        check.due("weigh(8, 0)", x.weigh(8, 0), -1);
        check.due("weigh(-1, 10)", x.weigh(-1, 10), -1);
        check.due("weigh(0, 10)", x.weigh(0, 10), -2);
        check.due("weigh(0, -1)", x.weigh(0, -1), -2);
        check.due("told(10) still", x.told(10), 0);
    }
}
