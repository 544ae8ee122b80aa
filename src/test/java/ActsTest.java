/** Promises 31 to 36: ACTS and their TRACE, KINDS, THE IMAGE, what is counted. */
public final class ActsTest {
    private static final Check check = new Check();

    public static void main(String[] args) {
        actsOfAnAunt();
        actsOfABlunt();
        actsOfAMeek();
        actsOfASly();
        actsOfAPious();
        actsOfABaker();
        actsOfATold();
        actsWrap();
        actsRefused();
        as();
        image();
        imageOfAll();
        imageStays();
        count();
        check.end();
    }

    /** An aunt of the kind with number 3 and v 4. */
    private static AuntsInTurn third(int kind) {
        AuntsInTurn x = new AuntsInTurn();
        for (int i = 0; i < 3; i++) {
            x.aunt(0, 0, 0);
        }
        x.aunt(kind, 4, 0);
        return x;
    }

    private static void act(int kind, int act, int x, int want, int... bodies) {
        AuntsInTurn aunts = third(kind);
        String call = "act " + act + " of kind " + kind;
        check.due(call, aunts.act(3, act, x), want);
        check.due(call + ": bodies", aunts.count(7), bodies.length);
        for (int i = 0; i < bodies.length; i++) {
            check.due(call + ": body " + i, aunts.trace(i), bodies[i]);
        }
        check.due(call + ": behind the bodies", aunts.trace(bodies.length), -1);
        check.due(call + ": ahead of the bodies", aunts.trace(-1), -1);
    }

    private static void actsOfAnAunt() {
        act(0, 0, 10, 13, 1);
        act(0, 1, 10, 9, 2, 1);
        act(0, 2, 10, 18, 3, 2, 1);
    }

    private static void actsOfABlunt() {
        act(1, 0, 10, 33, 11, 1);
        act(1, 1, 10, 29, 2, 11, 1);
        act(1, 2, 10, 58, 3, 2, 11, 1);
    }

    private static void actsOfAMeek() {
        act(2, 0, 10, 13, 1);
        act(2, 1, 10, -9, 21, 2, 1);
        act(2, 2, 10, -18, 3, 21, 2, 1);
    }

    private static void actsOfASly() {
        act(3, 0, 10, 13, 1);
        act(3, 1, 10, 9, 2, 1);
        act(3, 2, 10, 18 ^ 7, 31, 3, 2, 1);
    }

    private static void actsOfAPious() {
        act(4, 0, 10, 33, 11, 1);
        act(4, 1, 10, 29, 2, 11, 1);
        // warns(9) as BLUNT: ((27 + 3) - 4) * 2, and rings(2): 6 + 3
        act(4, 2, 10, 61, 41, 3, 2, 11, 1, 11, 1);
    }

    private static void actsOfABaker() {
        act(5, 0, 10, 13 ^ 3, 51, 1);
        act(5, 1, 10, 4 - (13 ^ 3), 21, 2, 51, 1);
        act(5, 2, 10, 2 * (4 - (13 ^ 3)), 3, 21, 2, 51, 1);
    }

    private static void actsOfATold() {
        act(6, 0, 10, 13, 1);
        act(6, 1, 10, 13, 61, 2, 1);
        act(6, 2, 10, 26 ^ 7, 31, 3, 61, 2, 1);
    }

    private static void actsWrap() {
        act(0, 0, Integer.MAX_VALUE, Integer.MIN_VALUE + 2, 1);
        act(1, 0, Integer.MAX_VALUE, Integer.MAX_VALUE * 3 + 3, 11, 1);
        act(2, 1, Integer.MIN_VALUE + 1, Integer.MIN_VALUE, 21, 2, 1);
        act(0, 2, 1 << 30, (1 << 31) - 2, 3, 2, 1);
    }

    private static void actsRefused() {
        AuntsInTurn x = third(0);
        check.due("no act yet", x.count(7), 0);
        x.act(3, 2, 5);
        check.due("trace(0)", x.trace(0), 3);
        check.due("act(4, 0, 5)", x.act(4, 0, 5), 0);
        check.due("no trace then", x.trace(0), -1);
        check.due("no bodies then", x.count(7), 0);
        x.act(3, 2, 5);
        check.due("act(-1, 0, 5)", x.act(-1, 0, 5), 0);
        check.due("no trace then", x.trace(0), -1);
        x.act(3, 2, 5);
        check.due("act(3, 3, 5)", x.act(3, 3, 5), 0);
        check.due("no trace then", x.trace(0), -1);
        x.act(3, 2, 5);
        check.due("act(3, -1, 5)", x.act(3, -1, 5), 0);
        check.due("no bodies then", x.count(7), 0);
        x.act(3, 2, 5);
        x.act(3, 0, 5);
        check.due("the latest act's first", x.trace(0), 1);
        check.due("the latest act's second", x.trace(1), -1);
        check.due("trace(20)", x.trace(20), -1);
    }

    private static void as() {
        int[] above = {-1, 0, 0, 0, 1, 2, 3};
        for (int kind = 0; kind < 7; kind++) {
            AuntsInTurn x = third(kind);
            for (int k = 0; k < 7; k++) {
                boolean is = k == 0 || k == kind || k == above[kind];
                check.due("kind " + kind + " as " + k, x.as(3, k), is ? 4 : -6);
            }
            check.due("as(3, 7)", x.as(3, 7), -1);
            check.due("as(3, -1)", x.as(3, -1), -1);
            check.due("as(4, 0)", x.as(4, 0), -1);
            check.due("as(-1, 0)", x.as(-1, 0), -1);
        }
    }

    private static void image() {
        AuntsInTurn x = new AuntsInTurn();
        check.due("undo without an image", x.undo(), -3);
        check.due("image of nothing", x.image(), 0);
        x.aunt(0, 0, 0);
        x.aunt(0, 0, 0);
        check.due("undo to nothing", x.undo(), 0);
        check.due("aunts", x.count(0), 0);
        check.due("aunt from 0 again", x.aunt(3, 2, 1), 0);
        check.due("image of one", x.image(), 1);
        check.due("aunt", x.aunt(4, 2, 1), 1);
        check.due("undo to one", x.undo(), 1);
        check.due("her KIND", x.of(0, 0), 3);
        check.due("no second one", x.of(1, 0), -1);
    }

    private static AuntsInTurn full() {
        AuntsInTurn x = new AuntsInTurn();
        x.aunt(6, 3, 240);
        x.aunt(5, 4, 12);
        x.row(0, 1, 5);
        x.away(1, true);
        x.weigh(6, 7);
        x.asker();
        x.asker();
        Check.valley(x, "nerve 5");
        x.pass(1);
        x.begin(1, 9);
        x.say(0, 64);
        x.plan(0, 0);
        x.plan(1, 0);
        x.book(0, 128);
        Check.feed(x, "nerve 4");
        return x;
    }

    private static void isAsFull(AuntsInTurn x) {
        int[] counts = {2, 2, 1, 1, 2, 1, 7};
        for (int what = 0; what < counts.length; what++) {
            check.due("count(" + what + ")", x.count(what), counts[what]);
        }
        check.due("DAY", x.told(0), 1);
        check.due("NERVE", x.told(1), 5);
        check.due("AWAY", x.told(2), 2);
        check.due("WEIGHT", x.told(16), 7);
        check.due("KIND", x.of(0, 0), 6);
        check.due("v", x.of(0, 1), 3);
        check.due("KNOWS", x.of(0, 2), 240);
        check.due("ROW", x.row(0, 1, 5), 5);
        check.due("HEARD", x.at(0, 0), 128);
        check.due("SHOCK", x.at(0, 1), 1);
        check.due("PLACE", x.at(0, 2), 1);
        check.due("HEARD by 1", x.at(1, 0), 9);
        check.due("looked", x.looked(), -5);
        check.due("done(1)", x.done(1), 1);
        // what was SAID: from nothing the least of SLY's greatest, 6
        check.due("knew(0, 1)", x.knew(0, 1), 64);
    }

    private static void imageOfAll() {
        AuntsInTurn x = full();
        isAsFull(x);
        check.due("image", x.image(), 2);
        x.aunt(0, 0, 0);
        x.asker();
        x.row(0, 1, 9);
        x.learn(0, 1);
        x.away(0, true);
        x.away(1, false);
        x.weigh(6, 0);
        x.begin(0, 3);
        x.begin(1, 3);
        x.say(-1, 0);
        x.say(1, 1);
        x.say(2, 2);
        x.plan(-1, 0);
        x.plan(3, 0);
        x.book(-1, 0);
        x.book(1, 1);
        x.book(1, 2);
        check.due("a new valley", x.valley(), 1);
        check.due("NERVE then", x.told(1), 4);
        x.feed('x');
        x.pass(3);
        x.act(0, 2, 1);
        int bodies = x.count(7);
        check.due("undo", x.undo(), 2);
        isAsFull(x);
        check.due("THE TRACE is not undone", x.trace(0), 31);
        check.due("nor how many bodies ran", x.count(7), bodies);
        check.due("the tape's text is as it was", x.valley(), 1);
        check.due("NERVE by it", x.told(1), 4);
    }

    private static void imageStays() {
        AuntsInTurn x = full();
        x.image();
        for (int i = 0; i < 3; i++) {
            x.learn(0, i);
            x.row(0, 1, i);
            x.begin(0, i);
            x.pass(i + 1);
            x.feed('y');
            check.due("undo again", x.undo(), 2);
            isAsFull(x);
        }
        x.learn(1, 77);
        x.aunt(1, 1, 1);
        check.due("a newer image", x.image(), 3);
        x.learn(1, 78);
        check.due("undo to the newer", x.undo(), 3);
        check.due("KNOWS by the newer", x.of(1, 2), 77);
        // a valley read anew after an undo is not the one that was undone
        AuntsInTurn y = new AuntsInTurn();
        Check.valley(y, "nerve 1");
        y.image();
        Check.valley(y, "nerve 2");
        y.undo();
        check.due("NERVE by the image's valley", y.told(1), 1);
        check.due("the next valley's number", Check.valley(y, "nerve 3"), 1);
        check.due("NERVE by it", y.told(1), 3);
        y.undo();
        check.due("NERVE by the image's valley again", y.told(1), 1);
    }

    private static void count() {
        AuntsInTurn x = full();
        check.due("count(-1)", x.count(-1), -1);
        check.due("count(8)", x.count(8), -1);
        x.act(0, 1, 3);
        check.due("bodies", x.count(7), 3);
        x.valley();
        check.due("signs", x.count(6), 0);
        check.due("valleys", x.count(2), 2);
    }
}
