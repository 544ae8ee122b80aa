/** Promises 21 to 26: what was SAID, KNEW, FIRM, WHO, ODDS, MEAN. */
public final class SaidTest {
    private static final Check check = new Check();

    public static void main(String[] args) {
        say();
        knewOfAnAunt();
        knewOfABaker();
        knewByMouth();
        knewByDay();
        knewRefused();
        firm();
        firmByMouth();
        firmOfAPious();
        who();
        odds();
        oddsRefused();
        mean();
        check.end();
    }

    private static AuntsInTurn one(int kind, int v, int knows) {
        AuntsInTurn x = new AuntsInTurn();
        x.aunt(kind, v, knows);
        return x;
    }

    private static void say() {
        AuntsInTurn x = new AuntsInTurn();
        check.due("say(256, 0)", x.say(256, 0), -2);
        check.due("say(-2, 0)", x.say(-2, 0), -2);
        check.due("say(0, 256)", x.say(0, 256), -2);
        check.due("say(0, -1)", x.say(0, -1), -2);
        check.due("say(-1) of none", x.say(-1, 0), 0);
        for (int i = 1; i <= 5; i++) {
            check.due("say", x.say(0, 255), i);
        }
        check.due("FULL", x.say(255, 0), -4);
        check.due("BAD ahead of FULL", x.say(256, 0), -2);
        check.due("rows", x.count(3), 5);
        check.due("say(-1, 999)", x.say(-1, 999), 0);
        check.due("rows then", x.count(3), 0);
        check.due("say again", x.say(0, 0), 1);
    }

    private static void knew(AuntsInTurn x, int many, int least) {
        check.due("knew(0, 0)", x.knew(0, 0), many);
        check.due("knew(0, 1)", x.knew(0, 1), least);
    }

    private static void knewOfAnAunt() {
        AuntsInTurn x = one(0, 0, 85);
        knew(x, 256, 0);
        x.say(0, 4);
        // 2 and neither 0 nor 1
        knew(x, 32, 4);
        x.say(4, 16);
        // 4 and not 3 besides
        knew(x, 8, 20);
        check.due("what she KNOWS is as it was", x.of(0, 2), 85);
        x.say(0, 1);
        knew(x, 0, -5);
        x.say(-1, 0);
        x.say(255, 0);
        knew(x, 256, 0);
        x.say(0, 0);
        knew(x, 1, 0);
        x.away(0, true);
        knew(x, 1, 0);
        x.say(-1, 0);
        // more than her mouth tells
        x.say(0, 3);
        knew(x, 0, -5);
    }

    private static void knewOfABaker() {
        AuntsInTurn x = one(5, 2, 0);
        x.say(0, 3);
        knew(x, 64, 2);
        x.say(-1, 0);
        x.say(0, 1);
        knew(x, 129, 0);
        x.say(6, 1);
        knew(x, 129, 0);
        x.say(6, 0);
        knew(x, 0, -5);
    }

    private static void knewByMouth() {
        AuntsInTurn x = one(0, 0, 0);
        Check.valley(x, "bold 1 l>2");
        x.say(0, 3);
        // 0, 1 and one more at least: she says two of them
        knew(x, 63, 7);
    }

    private static void knewByDay() {
        AuntsInTurn x = one(6, 0, 0);
        x.row(0, 0, 1);
        x.row(0, 1, 2);
        x.say(0, 129);
        knew(x, 64, 129);
        x.pass(1);
        knew(x, 0, -5);
    }

    private static void knewRefused() {
        AuntsInTurn x = one(0, 0, 0);
        check.due("knew(1, 0)", x.knew(1, 0), -1);
        check.due("knew(-1, 0)", x.knew(-1, 0), -1);
        check.due("knew(0, 2)", x.knew(0, 2), -1);
        check.due("knew(0, -1)", x.knew(0, -1), -1);
        check.due("firm(1, 0)", x.firm(1, 0), -1);
        check.due("firm(-1, 0)", x.firm(-1, 0), -1);
        check.due("firm(0, 2)", x.firm(0, 2), -1);
        check.due("firm(0, -1)", x.firm(0, -1), -1);
    }

    private static void firm(AuntsInTurn x, int many, int least) {
        check.due("firm(0, 0)", x.firm(0, 0), many);
        check.due("firm(0, 1)", x.firm(0, 1), least);
    }

    private static void firm() {
        AuntsInTurn x = one(2, 3, 1);
        firm(x, 10, 0);
        x.say(0, 1);
        firm(x, 9, 1);
        x.say(2, 1);
        firm(x, 8, 2);
        x.say(6, 0);
        firm(x, 1, 2);
        check.due("v is as it was", x.of(0, 1), 3);
        x.say(14, 1);
        firm(x, 0, -5);
    }

    private static void firmByMouth() {
        AuntsInTurn x = one(0, 1, 3);
        Check.valley(x, "bold 1 v>4");
        x.say(0, 3);
        firm(x, 5, 5);
        x.say(-1, 0);
        x.say(0, 1);
        firm(x, 5, 0);
    }

    private static void firmOfAPious() {
        AuntsInTurn x = one(4, 3, 255);
        x.say(0, 0);
        firm(x, 2, 0);
        x.say(1, 0);
        firm(x, 0, -5);
        x.say(-1, 0);
        x.say(1, 0);
        firm(x, 2, 1);
    }

    private static void who() {
        AuntsInTurn x = new AuntsInTurn();
        check.due("who of none", x.who(), 0);
        x.aunt(0, 0, 3);
        x.aunt(3, 0, 3);
        x.aunt(2, 1, 1);
        x.aunt(2, 2, 5);
        check.due("who by no rows", x.who(), 15);
        x.say(0, 1);
        check.due("who says 0 first", x.who(), 13);
        x.away(0, true);
        check.due("AWAY or not", x.who(), 13);
        x.say(2, 1);
        check.due("who says 0 then, too", x.who(), 9);
        x.say(1, 4);
        check.due("who says 2 then", x.who(), 8);
        x.say(3, 4);
        check.due("nobody", x.who(), 0);
    }

    private static void odds(AuntsInTurn x, int heard, int fact, long above, long below) {
        check.due("odds(" + heard + ", " + fact + ", 0)", x.odds(heard, fact, 0), above);
        check.due("odds(" + heard + ", " + fact + ", 1)", x.odds(heard, fact, 1), below);
    }

    private static void odds() {
        AuntsInTurn x = new AuntsInTurn();
        x.aunt(0, 0, 1);
        x.aunt(0, 0, 2);
        x.aunt(0, 0, 2);
        odds(x, 0, 0, 2, 3);
        odds(x, 0, 1, 1, 1);
        odds(x, 0, 5, 0, 1);
        odds(x, 32, 5, 1, 1);
        x.away(2, true);
        odds(x, 0, 0, 2, 3);
        odds(x, 0, 1, 2, 3);
        x.away(0, true);
        odds(x, 0, 0, 0, 1);
        check.due("AWAY as it was", x.told(2), 5);
        AuntsInTurn y = new AuntsInTurn();
        y.aunt(0, 0, 1);
        y.aunt(0, 0, 3);
        y.aunt(0, 0, 0);
        y.aunt(0, 0, 0);
        odds(y, 0, 1, 1, 2);
        odds(y, 1, 1, 3, 4);
        odds(y, 0, 0, 1, 1);
        y.weigh(0, 9);
        Check.valley(y, "nerve 8");
        // BACK at her who says 0, yet 0 is heard
        odds(y, 0, 0, 1, 1);
        odds(y, 0, 1, 0, 1);
        AuntsInTurn z = new AuntsInTurn();
        z.aunt(0, 0, 1);
        odds(z, 0, 0, 0, 1);
        odds(z, 1, 0, 1, 1);
    }

    private static void oddsRefused() {
        long no = Long.MIN_VALUE;
        AuntsInTurn x = new AuntsInTurn();
        check.due("odds of none", x.odds(0, 0, 0), no);
        check.due("odds of none, below", x.odds(1, 0, 1), no);
        x.aunt(0, 0, 1);
        check.due("odds(-1, 0, 0)", x.odds(-1, 0, 0), no);
        check.due("odds(256, 0, 0)", x.odds(256, 0, 0), no);
        check.due("odds(0, 8, 0)", x.odds(0, 8, 0), no);
        check.due("odds(0, -1, 0)", x.odds(0, -1, 0), no);
        check.due("odds(0, 0, 2)", x.odds(0, 0, 2), no);
        check.due("odds(0, 0, -1)", x.odds(0, 0, -1), no);
    }

    private static void mean() {
        long no = Long.MIN_VALUE;
        AuntsInTurn x = new AuntsInTurn();
        check.due("mean of none", x.mean(0), no);
        check.due("mean of none, below", x.mean(1), no);
        x.aunt(0, 0, 1);
        x.weigh(0, 6);
        x.asker();
        check.due("mean of no shock", x.mean(0), 0);
        check.due("mean of no shock, below", x.mean(1), 1);
        x.pass(1);
        check.due("mean of 6", x.mean(0), 6);
        check.due("mean of 6, below", x.mean(1), 1);
        for (int i = 0; i < 3; i++) {
            x.asker();
        }
        check.due("mean of 6 by 4", x.mean(0), 3);
        check.due("mean of 6 by 4, below", x.mean(1), 2);
        x.asker();
        check.due("mean of 6 by 5", x.mean(0), 6);
        check.due("mean of 6 by 5, below", x.mean(1), 5);
        check.due("mean(2)", x.mean(2), no);
        check.due("mean(-1)", x.mean(-1), no);
    }
}
