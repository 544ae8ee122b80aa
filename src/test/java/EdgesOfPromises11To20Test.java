/** Boundary cases of promises 11 to 20: ASKERS, DAYS, DAYS to come, CLIMBS. */
public final class EdgesOfPromises11To20Test {
    public static void main(String[] args) throws IllegalAccessException {
        Edges.run(EdgesOfPromises11To20Test.class);
    }

    private static AuntsInTurn played(String... calls) {
        return Edges.played(calls);
    }

    @Edge(of = "Promise 11: asker", says = "One of ASKERS: its number. FULL: 5.")
    static void theFifthIsTakenTheSixthIsNot() {
        AuntsInTurn x = new AuntsInTurn();
        for (int i = 0; i < 5; i++) {
            Edges.due("its number", x.asker(), i);
        }
        Edges.due("a sixth", x.asker(), Edges.FULL);
        Edges.due("a sixth again", x.asker(), Edges.FULL);
        Edges.refused(Edges.FULL, Scenes::full, "asker()", y -> y.asker());
    }

    private static final String AT = "Of an ASKER what 0 it HEARD, 1 SHOCK, 2 PLACE, 3 whether it is BACK, 4 COMES (-5). NONE.";

    @Edge(of = "Promise 12: at", says = AT)
    static void atAnAskerAndWhatThatThereAre() {
        for (int what = 0; what <= 4; what++) {
            int which = what;
            Edges.range(Edges.NONE, 0, 2, "at(n, " + what + ")", (x, n) -> x.at(n, which));
            Edges.range(Edges.NONE, 0, 4, Scenes::full, "at(n, " + what + ")", (x, n) -> x.at(n, which));
        }
        Edges.only(Edges.NONE, Scenes::some, "at(0, n)", (x, n) -> x.at(0, n), 0, 1, 2, 3, 4);
        Edges.only(Edges.NONE, Scenes::some, "at(2, n)", (x, n) -> x.at(2, n), 0, 1, 2, 3, 4);
        Edges.due("at(0, 0) without ASKERS", played("aunt 0 0 0").at(0, 0), Edges.NONE);
    }

    @Edge(of = "Promise 12: at", says = AT)
    static void comesIsMinus5WhereItIsBack() {
        AuntsInTurn x = played("aunt 0 0 1", "aunt 0 0 2", "asker", "asker", "begin 1 1", "text nerve 1", "valley");
        Edges.due("BACK ahead of that", x.at(0, 4), Edges.NOT_ANY);
        Edges.due("THROUGH then", x.at(1, 4), 3);
        x.pass(2);
        Edges.due("BACK now", x.at(0, 4), Edges.NOT_ANY);
        Edges.due("whether it is BACK", x.at(0, 3), 1);
        Edges.due("THROUGH now", x.at(1, 4), 3);
        Edges.due("whether that is BACK", x.at(1, 3), 0);
    }

    private static final String BEGIN = "An ASKER begins anew (PLACE 0, SHOCK 0, not BACK), having HEARD FACTS: what it HEARD. NONE; BAD.";

    @Edge(of = "Promise 13: begin", says = BEGIN)
    static void beginOfAskerAndFactsBesideTheirEnds() {
        Edges.range(Edges.NONE, 0, 2, "begin(n, 255)", (x, n) -> x.begin(n, 255));
        Edges.range(Edges.NONE, 0, 4, Scenes::full, "begin(n, 0)", (x, n) -> x.begin(n, 0));
        Edges.range(Edges.BAD, 0, 255, "begin(2, n)", (x, n) -> x.begin(2, n));
        Edges.refused(Edges.NONE, "NONE ahead of BAD: begin(3, 256)", x -> x.begin(3, 256));
        Edges.refused(Edges.NONE, "NONE ahead of BAD: begin(-1, -1)", x -> x.begin(-1, -1));
    }

    @Edge(of = "Promise 13: begin", says = BEGIN)
    static void beginAnewOfOneWhoIsBackAndOfOneWhoIsThrough() {
        AuntsInTurn x = played("aunt 0 0 1", "asker", "asker", "begin 1 1", "text nerve 0", "valley", "pass 1");
        Edges.due("BACK and THROUGH", x.told(3) * 10 + x.told(4), 11);
        Edges.due("what the first HEARD", x.begin(0, 0), 1);
        Edges.due("what the second HEARD", x.begin(1, 255), 1);
        for (int i = 0; i < 2; i++) {
            Edges.due("HEARD", x.at(i, 0), 255 * i);
            Edges.due("SHOCK", x.at(i, 1), 0);
            Edges.due("PLACE", x.at(i, 2), 0);
            Edges.due("BACK", x.at(i, 3), 0);
        }
        Edges.due("nobody is BACK or THROUGH", x.told(3) + x.told(4), 0);
    }

    @Edge(of = "Promise 14: told", says = "What 0 DAY, 1 NERVE, 2 which AUNTS are AWAY (bits), 3 how many are THROUGH, 4 how many are BACK, 10 and f WEIGHT of FACT f. NONE.")
    static void toldOfWhatThereIs() {
        int[] these = {0, 1, 2, 3, 4, 10, 11, 12, 13, 14, 15, 16, 17};
        Edges.only(Edges.NONE, Scenes::some, "told(n)", (x, n) -> x.told(n), these);
        Edges.only(Edges.NONE, AuntsInTurn::new, "told(n) of a new object", (x, n) -> x.told(n), these);
        AuntsInTurn x = new AuntsInTurn();
        for (int fact = 0; fact < 8; fact++) {
            x.weigh(fact, fact + 2);
        }
        for (int fact = 0; fact < 8; fact++) {
            Edges.due("WEIGHT", x.told(10 + fact), fact + 2);
        }
    }

    @Edge(of = "Promise 14: told", says = "What 0 DAY, 1 NERVE, 2 which AUNTS are AWAY (bits), 3 how many are THROUGH, 4 how many are BACK, 10 and f WEIGHT of FACT f. NONE.")
    static void toldOfNobodyAndOfAll() {
        AuntsInTurn x = played("aunt 0 0 1", "aunt 0 0 1", "aunt 0 0 1", "aunt 0 0 1", "aunt 0 0 1", "aunt 0 0 1");
        Edges.due("nobody is AWAY", x.told(2), 0);
        for (int i = 0; i < 6; i++) {
            x.away(i, true);
            Edges.due("those who are AWAY", x.told(2), (2 << i) - 1);
        }
        Played.on(x, "asker", "asker", "asker", "asker", "asker", "pass 5");
        Edges.due("nobody is THROUGH", x.told(3), 0);
        x.pass(1);
        Edges.due("all are THROUGH", x.told(3), 5);
        Edges.due("nobody is BACK", x.told(4), 0);
        AuntsInTurn y = played("aunt 0 0 1", "asker", "asker", "asker", "asker", "asker", "text nerve 0", "valley", "pass 1");
        Edges.due("all are BACK", y.told(4), 5);
        Edges.due("nobody is THROUGH then", y.told(3), 0);
    }

    private static final String PASS = "n DAYS (0 .. 60) go: DAY. BAD; STATE: it would be above 9999.";

    private static AuntsInTurn onDay(int day) {
        AuntsInTurn x = played("aunt 6 1 255", "row 0 3 5", "asker", "asker", "image");
        for (int i = 0; i < day / 60; i++) {
            x.pass(60);
        }
        x.pass(day % 60);
        x.begin(1, 7);
        return x;
    }

    @Edge(of = "Promise 15: pass", says = PASS)
    static void from0To60DaysGo() {
        Edges.range(Edges.BAD, 0, 60, "pass(n)", (x, n) -> x.pass(n));
        for (int n = 0; n <= 60; n++) {
            Edges.due("DAY", played("pass 7").pass(n), 7 + n);
        }
        AuntsInTurn x = Scenes.some();
        x.pass(0);
        Edges.same("no DAY goes and yet changes", x, Scenes.some());
    }

    @Edge(of = "Promise 15: pass", says = PASS)
    static void toDay9999AndNotAbove() {
        for (int n = 1; n <= 60; n++) {
            Edges.due("to 9999 by " + n, onDay(9999 - n).pass(n), 9999);
        }
        for (int n : new int[] {1, 2, 59, 60}) {
            Edges.due("to 10000 by " + n, onDay(10000 - n).pass(n), Edges.STATE);
        }
        AuntsInTurn x = onDay(9999);
        Edges.due("no DAY goes on the last", x.pass(0), 9999);
        Edges.due("one does not", x.pass(1), Edges.STATE);
        Edges.due("DAY", x.told(0), 9999);
    }

    @Edge(of = "Promise 15: pass", says = PASS)
    static void aRefusedPassChangesNothing() {
        for (int day : new int[] {9940, 9998, 9999}) {
            Edges.refused(Edges.STATE, () -> onDay(day), "pass(60) on DAY " + day, x -> x.pass(60));
            Edges.refused(Edges.BAD, () -> onDay(day), "BAD ahead of STATE: pass(61) on DAY " + day, x -> x.pass(61));
            Edges.refused(Edges.BAD, () -> onDay(day), "pass(-1) on DAY " + day, x -> x.pass(-1));
        }
        AuntsInTurn x = onDay(9939);
        Edges.due("pass(60) on DAY 9939", x.pass(60), 9999);
    }

    private static final String ON = "ON: what 0 how many are BACK, 10 and a what ASKER a HEARD, 20 and a its PLACE, 30 and a its SHOCK. NONE; BAD: n.";

    @Edge(of = "Promise 16: on", says = ON)
    static void onWhatAndAskersThatThereAre() {
        Edges.only(Edges.NONE, AuntsInTurn::new, "on(1, n) without ASKERS", (x, n) -> x.on(1, n), 0);
        Edges.only(Edges.NONE, Scenes::told, "on(1, n) with one ASKER", (x, n) -> x.on(1, n), 0, 10, 20, 30);
        Edges.only(Edges.NONE, Scenes::some, "on(1, n) with three", (x, n) -> x.on(1, n), 0, 10, 11, 12, 20, 21, 22, 30, 31, 32);
        Edges.only(Edges.NONE, Scenes::full, "on(0, n) with five", (x, n) -> x.on(0, n),
            0, 10, 11, 12, 13, 14, 20, 21, 22, 23, 24, 30, 31, 32, 33, 34);
    }

    @Edge(of = "Promise 16: on", says = ON)
    static void onDaysBesideTheirEnds() {
        for (int what : new int[] {0, 10, 12, 20, 22, 30, 32}) {
            Edges.range(Edges.BAD, 0, 60, "on(n, " + what + ")", (x, n) -> x.on(n, what));
        }
        for (int what : new int[] {1, 13, 40, -1}) {
            Edges.refused(Edges.NONE, "NONE ahead of BAD: on(61, " + what + ")", x -> x.on(61, what));
            Edges.refused(Edges.NONE, "NONE ahead of BAD: on(-1, " + what + ")", x -> x.on(-1, what));
        }
    }

    private static final String CLIMB = "A CLIMB (way 0 up, 1 down): what 0 HEARD, 1 SHOCK, 2 at whom it is BACK (-5). NONE: way, what; BAD: heard.";

    @Edge(of = "Promise 17: climb", says = CLIMB)
    static void climbWayHeardWhatBesideTheirEnds() {
        for (int what = 0; what <= 2; what++) {
            int which = what;
            Edges.only(Edges.NONE, Scenes::some, "climb(n, 0, " + what + ")", (x, n) -> x.climb(n, 0, which), 0, 1);
            Edges.range(Edges.BAD, 0, 255, "climb(0, n, " + what + ")", (x, n) -> x.climb(0, n, which));
            Edges.range(Edges.BAD, 0, 255, "climb(1, n, " + what + ")", (x, n) -> x.climb(1, n, which));
        }
        for (int way = 0; way <= 1; way++) {
            int which = way;
            Edges.only(Edges.NONE, Scenes::some, "climb(" + way + ", 0, n)", (x, n) -> x.climb(which, 0, n), 0, 1, 2);
        }
    }

    @Edge(of = "Promise 17: climb", says = CLIMB)
    static void climbNoneAheadOfBad() {
        Edges.refused(Edges.NONE, "climb(2, 256, 0)", x -> x.climb(2, 256, 0));
        Edges.refused(Edges.NONE, "climb(-1, -1, 0)", x -> x.climb(-1, -1, 0));
        Edges.refused(Edges.NONE, "climb(0, 256, 3)", x -> x.climb(0, 256, 3));
        Edges.refused(Edges.NONE, "climb(1, -1, -1)", x -> x.climb(1, -1, -1));
        Edges.refused(Edges.NONE, "climb(2, 0, 3)", x -> x.climb(2, 0, 3));
        Edges.refused(Edges.BAD, AuntsInTurn::new, "climb(0, 256, 0) without AUNTS", x -> x.climb(0, 256, 0));
    }

    @Edge(of = "Promise 17: climb", says = CLIMB)
    static void climbIsBackAtTheFirstAtTheLastOrAtNobody() {
        AuntsInTurn x = played("aunt 0 0 1", "aunt 0 0 2", "text nerve 0", "valley");
        Edges.due("up, at the first", x.climb(0, 0, 2), 0);
        Edges.due("down, at the last", x.climb(1, 0, 2), 1);
        Edges.due("up, at the last", x.climb(0, 1, 2), 1);
        Edges.due("down, at the first", x.climb(1, 2, 2), 0);
        Edges.due("up, at nobody", x.climb(0, 3, 2), Edges.NOT_ANY);
        Edges.due("down, at nobody", x.climb(1, 3, 2), Edges.NOT_ANY);
        Edges.due("of no AUNTS", new AuntsInTurn().climb(0, 0, 2), Edges.NOT_ANY);
    }

    private static final String ORDER = "ORDER: what 0 how many FACTS, 1 SHOCK, 10 and k the k-th AUNT (k 0 .. 5; -5: there are fewer); -5. NONE: what; BAD: heard.";

    @Edge(of = "Promise 18: order", says = ORDER)
    static void orderWhatAndHeardBesideTheirEnds() {
        int[] these = {0, 1, 10, 11, 12, 13, 14, 15};
        Edges.only(Edges.NONE, AuntsInTurn::new, "order(0, n) without AUNTS", (x, n) -> x.order(0, n), these);
        Edges.only(Edges.NONE, Scenes::some, "order(0, n)", (x, n) -> x.order(0, n), these);
        for (int what : these) {
            Edges.range(Edges.BAD, 0, 255, "order(n, " + what + ")", (x, n) -> x.order(n, what));
        }
        for (int what : new int[] {-1, 2, 9, 16}) {
            Edges.refused(Edges.NONE, "NONE ahead of BAD: order(256, " + what + ")", x -> x.order(256, what));
            Edges.refused(Edges.NONE, "NONE ahead of BAD: order(-1, " + what + ")", x -> x.order(-1, what));
        }
    }

    @Edge(of = "Promise 18: order", says = ORDER)
    static void orderOfFewerThanSix() {
        AuntsInTurn x = new AuntsInTurn();
        for (int many = 0; many <= 6; many++) {
            for (int k = 0; k < 6; k++) {
                Edges.due(k + "-th of " + many, x.order(0, 10 + k), k < many ? k : Edges.NOT_ANY);
            }
            Edges.due("FACTS of " + many, x.order(0, 0), many);
            Edges.due("SHOCK of " + many, x.order(0, 1), many);
            x.aunt(0, 0, 1 << many);
        }
    }

    @Edge(of = "Promise 18: order", says = ORDER)
    static void orderBackByEach() {
        AuntsInTurn x = played("aunt 0 0 1", "text nerve 0", "valley");
        for (int what : new int[] {0, 1, 10, 11, 15}) {
            Edges.due("order(0, " + what + ")", x.order(0, what), Edges.NOT_ANY);
        }
        Edges.due("NONE still", x.order(0, 16), Edges.NONE);
        Edges.due("BAD still", x.order(256, 10), Edges.BAD);
        Edges.due("not BACK if it is HEARD ahead", x.order(1, 10), 0);
    }

    @Edge(of = "Promise 19: hush", says = "HUSH (bits); -5. NONE.")
    static void hushOfFactsThatThereAre() {
        Edges.range(Edges.NONE, 0, 7, "hush(n)", (x, n) -> x.hush(n));
        Edges.only(Edges.NONE, AuntsInTurn::new, "hush(n) without AUNTS", (x, n) -> x.hush(n), 0, 1, 2, 3, 4, 5, 6, 7);
        AuntsInTurn x = played("aunt 0 0 1", "aunt 3 0 128");
        Edges.due("hush(0)", x.hush(0), 1);
        Edges.due("hush(7)", x.hush(7), 2);
        for (int fact = 1; fact < 7; fact++) {
            Edges.due("hush(" + fact + ")", x.hush(fact), 0);
        }
    }

    /** Were all AWAY, nothing would be HEARD: there is always such a set, and never -5. */
    @Edge(of = "Promise 19: hush", says = "HUSH (bits); -5. NONE.")
    static void hushIsNeverMinus5() {
        AuntsInTurn x = new AuntsInTurn();
        for (int many = 0; many <= 6; many++) {
            Edges.due("of " + many + " BAKERS", x.hush(0), (1 << many) - 1);
            x.aunt(5, 0, 255);
        }
    }

    @Edge(of = "Promise 20: whole", says = "WHOLE: what 0 which (bits), 1 how many FACTS. NONE.")
    static void wholeOfWhatThereIs() {
        Edges.only(Edges.NONE, AuntsInTurn::new, "whole(n) without AUNTS", (x, n) -> x.whole(n), 0, 1);
        Edges.only(Edges.NONE, Scenes::some, "whole(n)", (x, n) -> x.whole(n), 0, 1);
        AuntsInTurn x = new AuntsInTurn();
        for (int many = 1; many <= 6; many++) {
            x.aunt(0, 0, 1 << many);
            Edges.due("which of " + many, x.whole(0), (1 << many) - 1);
            Edges.due("how many FACTS of " + many, x.whole(1), many);
        }
    }
}
