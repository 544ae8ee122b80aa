/** Boundary cases of the third part of the Terms: the refusals, which one is told, and that they change nothing. */
public final class EdgesOfTerms3Test {
    private static final int MIN = Integer.MIN_VALUE, MAX = Integer.MAX_VALUE;

    public static void main(String[] args) throws IllegalAccessException {
        Edges.run(EdgesOfTerms3Test.class);
    }

    private static AuntsInTurn played(String... calls) {
        return Edges.played(calls);
    }

    private static final String NONE = "NONE there is no such AUNT, ASKER, KIND, FACT, way, what, part, k, i;";

    @Edge(of = "Terms 3", says = NONE)
    static void noSuchAunt() {
        Edges.range(Edges.NONE, 0, 3, "of(n, 1)", (x, n) -> x.of(n, 1));
        Edges.range(Edges.NONE, 0, 3, "says(n, 0, 0)", (x, n) -> x.says(n, 0, 0));
        Edges.range(Edges.NONE, 0, 0, Scenes::told, "row(n, 0, 0)", (x, n) -> x.row(n, 0, 0));
        Edges.range(Edges.NONE, 0, 3, "learn(n, 1)", (x, n) -> x.learn(n, 1));
        Edges.range(Edges.NONE, 0, 3, "away(n, true)", (x, n) -> x.away(n, true));
        Edges.range(Edges.NONE, 0, 3, "knew(n, 0)", (x, n) -> x.knew(n, 0));
        Edges.range(Edges.NONE, 0, 3, "firm(n, 0)", (x, n) -> x.firm(n, 0));
        Edges.range(Edges.NONE, 0, 3, "plan(1, n)", (x, n) -> x.plan(1, n));
        Edges.range(Edges.NONE, 0, 3, "plan(2, n)", (x, n) -> x.plan(2, n));
        Edges.range(Edges.NONE, 0, 3, "as(n, 0)", (x, n) -> x.as(n, 0));
    }

    @Edge(of = "Terms 3", says = NONE)
    static void noSuchAsker() {
        Edges.range(Edges.NONE, 0, 2, "at(n, 0)", (x, n) -> x.at(n, 0));
        Edges.range(Edges.NONE, 0, 2, "begin(n, 0)", (x, n) -> x.begin(n, 0));
        Edges.range(Edges.NONE, 0, 2, "plan(3, n)", (x, n) -> x.plan(3, n));
        for (int n : new int[] {3, 5, MAX, -2, MIN}) {
            Edges.refused(Edges.NONE, "book(" + n + ", 0)", x -> x.book(n, 0));
        }
        for (int group : new int[] {10, 20, 30}) {
            for (int n = 0; n <= 9; n++) {
                int what = group + n;
                Edges.due("on(1, " + what + ")", Edges.isRefusal(Scenes.some().on(1, what)) ? 1 : 0, n < 3 ? 0 : 1);
            }
        }
    }

    @Edge(of = "Terms 3", says = NONE)
    static void noSuchKindFactWayPartKI() {
        Edges.range(Edges.NONE, 0, 6, "aunt(n, 0, 0)", (x, n) -> x.aunt(n, 0, 0));
        Edges.range(Edges.NONE, 0, 6, "as(1, n)", (x, n) -> x.as(1, n));
        Edges.range(Edges.NONE, 0, 7, "weigh(n, 2)", (x, n) -> x.weigh(n, 2));
        Edges.range(Edges.NONE, 0, 7, "hush(n)", (x, n) -> x.hush(n));
        Edges.range(Edges.NONE, 0, 1, "climb(n, 3, 0)", (x, n) -> x.climb(n, 3, 0));
        Edges.range(Edges.NONE, 0, 3, "row(0, n, 3)", (x, n) -> x.row(0, n, 3));
        Edges.range(Edges.NONE, 0, 4, "trace(n)", (x, n) -> x.trace(n));
        Edges.range(Edges.NO, 0, 1, "odds(3, 0, n)", (x, n) -> x.odds(3, 0, n));
        Edges.range(Edges.NO, 0, 1, "mean(n)", (x, n) -> x.mean(n));
    }

    @Edge(of = "Terms 3", says = NONE)
    static void noSuchWhat() {
        Edges.range(Edges.NONE, 0, 3, "of(0, n)", (x, n) -> x.of(0, n));
        Edges.range(Edges.NONE, 0, 2, "says(0, 0, n)", (x, n) -> x.says(0, 0, n));
        Edges.range(Edges.NONE, 0, 4, "at(0, n)", (x, n) -> x.at(0, n));
        Edges.range(Edges.NONE, 0, 2, "climb(0, 0, n)", (x, n) -> x.climb(0, 0, n));
        Edges.range(Edges.NONE, 0, 1, "whole(n)", (x, n) -> x.whole(n));
        Edges.range(Edges.NONE, 0, 1, "knew(0, n)", (x, n) -> x.knew(0, n));
        Edges.range(Edges.NONE, 0, 1, "firm(0, n)", (x, n) -> x.firm(0, n));
        Edges.range(Edges.NONE, 0, 1, "done(n)", (x, n) -> x.done(n));
        Edges.range(Edges.NONE, 0, 7, "count(n)", (x, n) -> x.count(n));
        for (int n : new int[] {5, 9, 18, MAX, -1, MIN, MIN + 10}) {
            Edges.refused(Edges.NONE, "told(" + n + ")", x -> x.told(n));
        }
        for (int n : new int[] {1, 9, 13, 19, 40, MAX, -1, -10, MIN}) {
            Edges.refused(Edges.NONE, "on(1, " + n + ")", x -> x.on(1, n));
        }
        for (int n : new int[] {2, 9, 16, MAX, -1, MIN, MIN + 10}) {
            Edges.refused(Edges.NONE, "order(0, " + n + ")", x -> x.order(0, n));
        }
        for (int n : new int[] {4, MAX, -2, MIN}) {
            Edges.refused(Edges.NONE, "plan(" + n + ", 0)", x -> x.plan(n, 0));
        }
    }

    @Edge(of = "Terms 3", says = "BAD a number is not as told;")
    static void numbersThatAreNotAsTold() {
        Edges.range(Edges.BAD, 0, 127, "feed(n)", (x, n) -> x.feed(n));
        Edges.range(Edges.BAD, 0, 9, "aunt(4, n, 1)", (x, n) -> x.aunt(4, n, 1));
        Edges.range(Edges.BAD, 0, 255, "aunt(4, 1, n)", (x, n) -> x.aunt(4, 1, n));
        Edges.range(Edges.BAD, 0, 255, "says(1, n, 2)", (x, n) -> x.says(1, n, 2));
        Edges.range(Edges.BAD, 0, 9, "row(0, 2, n)", (x, n) -> x.row(0, 2, n));
        Edges.range(Edges.BAD, 0, 255, "learn(1, n)", (x, n) -> x.learn(1, n));
        Edges.range(Edges.BAD, 0, 9, "weigh(3, n)", (x, n) -> x.weigh(3, n));
        Edges.range(Edges.BAD, 0, 255, "begin(1, n)", (x, n) -> x.begin(1, n));
        Edges.range(Edges.BAD, 0, 60, "pass(n)", (x, n) -> x.pass(n));
        Edges.range(Edges.BAD, 0, 60, "on(n, 0)", (x, n) -> x.on(n, 0));
        Edges.range(Edges.BAD, 0, 255, "climb(1, n, 1)", (x, n) -> x.climb(1, n, 1));
        Edges.range(Edges.BAD, 0, 255, "order(n, 1)", (x, n) -> x.order(n, 1));
        Edges.range(Edges.BAD, 0, 255, "say(9, n)", (x, n) -> x.say(9, n));
        Edges.range(Edges.BAD, 0, 255, "book(1, n)", (x, n) -> x.book(1, n));
        for (int n : new int[] {256, MAX, -2, MIN}) {
            Edges.refused(Edges.BAD, "say(" + n + ", 9)", x -> x.say(n, 9));
        }
    }

    @Edge(of = "Terms 3", says = "STATE as told; FULL. They change nothing.")
    static void stateAndFullChangeNothing() {
        Edges.refused(Edges.STATE, "row(1, 0, 3)", x -> x.row(1, 0, 3));
        Edges.refused(Edges.STATE, Scenes::told, "undo()", x -> x.undo());
        Edges.refused(Edges.STATE, () -> lastDay(), "pass(1)", x -> x.pass(1));
        Edges.refused(Edges.FULL, Scenes::fullTape, "feed(49)", x -> x.feed(49));
        Edges.refused(Edges.FULL, Scenes::full, "valley()", x -> x.valley());
        Edges.refused(Edges.FULL, Scenes::full, "aunt(6, 1, 1)", x -> x.aunt(6, 1, 1));
        Edges.refused(Edges.FULL, Scenes::full, "asker()", x -> x.asker());
        Edges.refused(Edges.FULL, Scenes::full, "say(1, 1)", x -> x.say(1, 1));
        Edges.refused(Edges.FULL, Scenes::full, "plan(1, 1)", x -> x.plan(1, 1));
        Edges.refused(Edges.FULL, Scenes::full, "book(1, 1)", x -> x.book(1, 1));
    }

    private static AuntsInTurn lastDay() {
        AuntsInTurn x = played("aunt 6 1 255", "row 0 3 5", "asker");
        for (int i = 0; i < 166; i++) {
            x.pass(60);
        }
        Played.on(x, "pass 39", "asker", "begin 0 7");
        return x;
    }

    @Edge(of = "Terms 3", says = "REFUSALS, of several the first one told:")
    static void ofSeveralTheFirstOneTold() {
        Edges.due("BAD, FULL: feed(128)", Scenes.fullTape().feed(128), Edges.BAD);
        Edges.due("NONE, BAD, FULL: aunt(7, 10, 256)", Scenes.full().aunt(7, 10, 256), Edges.NONE);
        Edges.due("BAD, FULL: aunt(6, 10, 255)", Scenes.full().aunt(6, 10, 255), Edges.BAD);
        Edges.due("NONE, BAD: says(4, 256, 3)", Scenes.some().says(4, 256, 3), Edges.NONE);
        Edges.due("NONE, BAD: says(0, 256, 3)", Scenes.some().says(0, 256, 3), Edges.NONE);
        Edges.due("NONE, BAD, STATE: row(1, 4, 10)", Scenes.some().row(1, 4, 10), Edges.NONE);
        Edges.due("BAD, STATE: row(1, 3, 10)", Scenes.some().row(1, 3, 10), Edges.BAD);
        Edges.due("NONE, BAD: learn(4, 256)", Scenes.some().learn(4, 256), Edges.NONE);
        Edges.due("NONE, BAD: weigh(8, 10)", Scenes.some().weigh(8, 10), Edges.NONE);
        Edges.due("NONE, BAD: begin(3, 256)", Scenes.some().begin(3, 256), Edges.NONE);
        Edges.due("BAD, STATE: pass(61)", lastDay().pass(61), Edges.BAD);
        Edges.due("NONE, BAD: on(61, 13)", Scenes.some().on(61, 13), Edges.NONE);
        Edges.due("NONE, BAD: climb(2, 256, 3)", Scenes.some().climb(2, 256, 3), Edges.NONE);
        Edges.due("NONE, BAD: climb(0, 256, 3)", Scenes.some().climb(0, 256, 3), Edges.NONE);
        Edges.due("NONE, BAD: order(256, 16)", Scenes.some().order(256, 16), Edges.NONE);
        Edges.due("BAD, FULL: say(256, 256)", Scenes.full().say(256, 256), Edges.BAD);
        Edges.due("NONE, FULL: plan(4, 0)", Scenes.full().plan(4, 0), Edges.NONE);
        Edges.due("NONE, FULL: plan(1, 6)", Scenes.full().plan(1, 6), Edges.NONE);
        Edges.due("NONE, BAD, FULL: book(5, 256)", Scenes.full().book(5, 256), Edges.NONE);
        Edges.due("BAD, FULL: book(4, 256)", Scenes.full().book(4, 256), Edges.BAD);
        Edges.due("FULL ahead of a FAULT: valley()", Scenes.full().valley(), Edges.FULL);
    }

    @Edge(of = "Terms 3", says = "`NO = Long.MIN_VALUE`: There is no such number.")
    static void noIsTheLeastLong() {
        Edges.due("NO", AuntsInTurn.NO, Long.MIN_VALUE);
        Edges.due("NO is the constant", AuntsInTurn.NO == Edges.NO ? 1 : 0, 1);
        Edges.due("NONE", AuntsInTurn.NONE, -1);
        Edges.due("BAD", AuntsInTurn.BAD, -2);
        Edges.due("STATE", AuntsInTurn.STATE, -3);
        Edges.due("FULL", AuntsInTurn.FULL, -4);
        Edges.due("mean(0) without ASKERS", new AuntsInTurn().mean(0), AuntsInTurn.NO);
        Edges.due("odds(0, 0, 0) without AUNTS", new AuntsInTurn().odds(0, 0, 0), AuntsInTurn.NO);
    }

    @Edge(of = "Terms 3", says = "part 0 above, 1 below the line.")
    static void partsAboveAndBelowTheLine() {
        AuntsInTurn x = played("aunt 0 0 1", "aunt 0 0 0", "aunt 0 0 0", "asker", "asker", "weigh 0 3", "begin 1 1", "pass 1");
        Edges.due("ODDS above", x.odds(0, 0, 0), 2);
        Edges.due("ODDS below", x.odds(0, 0, 1), 3);
        Edges.due("MEAN above", x.mean(0), 3);
        Edges.due("MEAN below", x.mean(1), 2);
        Edges.range(Edges.NO, 0, 1, "odds(0, 7, n)", (y, n) -> y.odds(0, 7, n));
        Edges.range(Edges.NO, 0, 1, "mean(n)", (y, n) -> y.mean(n));
    }
}
