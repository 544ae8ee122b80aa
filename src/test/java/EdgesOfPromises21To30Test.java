/** Boundary cases of promises 21 to 30: what was SAID, ODDS, MEAN, the PLAN, BOOK. */
public final class EdgesOfPromises21To30Test {
    private static final int MIN = Integer.MIN_VALUE, MAX = Integer.MAX_VALUE;

    public static void main(String[] args) throws IllegalAccessException {
        Edges.run(EdgesOfPromises21To30Test.class);
    }

    private static AuntsInTurn played(String... calls) {
        return Edges.played(calls);
    }

    private static final String SAY = "What was SAID comes: how many rows there are (heard -1: none then, 0, whatever the other is). BAD: heard, said; FULL: 5.";

    @Edge(of = "Promise 21: say", says = SAY)
    static void sayHeardAndSaidBesideTheirEnds() {
        Edges.range(Edges.BAD, 0, 255, "say(0, n)", (x, n) -> x.say(0, n));
        Edges.range(Edges.BAD, 0, 255, "say(255, n)", (x, n) -> x.say(255, n));
        for (int n : new int[] {0, 1, 254, 255}) {
            Edges.taken(Scenes::some, "say(n, 0)", n, (x, heard) -> x.say(heard, 0));
        }
        Edges.above(Edges.BAD, 255, Scenes::some, "say(n, 0)", (x, n) -> x.say(n, 0));
        for (int n : new int[] {-2, -3, -1000, MIN}) {
            Edges.refused(Edges.BAD, "say(" + n + ", 0)", x -> x.say(n, 0));
            Edges.refused(Edges.BAD, "say(" + n + ", 256)", x -> x.say(n, 256));
        }
    }

    @Edge(of = "Promise 21: say", says = SAY)
    static void sayMinus1WhateverTheOtherIs() {
        for (int other : new int[] {0, 255, 256, -1, -2, MIN, MAX}) {
            AuntsInTurn x = Scenes.full();
            Edges.due("say(-1, " + other + ")", x.say(-1, other), 0);
            Edges.due("rows", x.count(3), 0);
            Edges.due("WHO by no rows", x.who(), 63);
            Edges.due("KNEW by no rows", x.knew(0, 0), 256);
            Edges.due("the next one", x.say(0, 0), 1);
            Edges.due("of no rows", new AuntsInTurn().say(-1, other), 0);
        }
    }

    @Edge(of = "Promise 21: say", says = SAY)
    static void theFifthRowIsTakenTheSixthIsNot() {
        AuntsInTurn x = new AuntsInTurn();
        for (int i = 1; i <= 5; i++) {
            Edges.due("rows", x.say(0, 0), i);
        }
        Edges.due("a sixth", x.say(0, 0), Edges.FULL);
        Edges.refused(Edges.FULL, Scenes::full, "say(255, 0)", y -> y.say(255, 0));
        Edges.refused(Edges.FULL, Scenes::full, "say(0, 255)", y -> y.say(0, 255));
        Edges.refused(Edges.BAD, Scenes::full, "BAD ahead of FULL: say(256, 0)", y -> y.say(256, 0));
        Edges.refused(Edges.BAD, Scenes::full, "BAD ahead of FULL: say(0, 256)", y -> y.say(0, 256));
        Edges.refused(Edges.BAD, Scenes::full, "BAD ahead of FULL: say(-2, -1)", y -> y.say(-2, -1));
    }

    @Edge(of = "Promise 22: knew", says = "KNEW: what 0 how many, 1 the least; -5. NONE.")
    static void knewOfAuntsAndWhatThatThereAre() {
        for (int what = 0; what <= 1; what++) {
            int which = what;
            Edges.range(Edges.NONE, 0, 3, "knew(n, " + what + ")", (x, n) -> x.knew(n, which));
            Edges.range(Edges.NONE, 0, 5, Scenes::full, "knew(n, " + what + ")", (x, n) -> x.knew(n, which));
        }
        Edges.only(Edges.NONE, Scenes::some, "knew(0, n)", (x, n) -> x.knew(0, n), 0, 1);
        Edges.refused(Edges.NONE, AuntsInTurn::new, "knew(0, 0) without AUNTS", x -> x.knew(0, 0));
    }

    @Edge(of = "Promise 22: knew", says = "KNEW: what 0 how many, 1 the least; -5. NONE.")
    static void knewByNoneHowManyIs0AndTheLeastMinus5() {
        AuntsInTurn x = played("aunt 0 0 1", "say 0 3");
        Edges.due("how many", x.knew(0, 0), 0);
        Edges.due("the least", x.knew(0, 1), Edges.NOT_ANY);
        Played.on(x, "say -1 0", "say 0 0");
        Edges.due("how many, of the empty set alone", x.knew(0, 0), 1);
        Edges.due("the least, of the empty set alone", x.knew(0, 1), 0);
    }

    @Edge(of = "Promise 23: firm", says = "FIRM: what 0 how many, 1 the least; -5. NONE.")
    static void firmOfAuntsAndWhatThatThereAre() {
        for (int what = 0; what <= 1; what++) {
            int which = what;
            Edges.range(Edges.NONE, 0, 3, "firm(n, " + what + ")", (x, n) -> x.firm(n, which));
            Edges.range(Edges.NONE, 0, 5, Scenes::full, "firm(n, " + what + ")", (x, n) -> x.firm(n, which));
        }
        Edges.only(Edges.NONE, Scenes::some, "firm(0, n)", (x, n) -> x.firm(0, n), 0, 1);
        Edges.refused(Edges.NONE, AuntsInTurn::new, "firm(0, 0) without AUNTS", x -> x.firm(0, 0));
    }

    @Edge(of = "Promise 23: firm", says = "FIRM: what 0 how many, 1 the least; -5. NONE.")
    static void firmByNoneHowManyIs0AndTheLeastMinus5() {
        AuntsInTurn x = played("aunt 0 0 1", "say 0 3");
        Edges.due("how many", x.firm(0, 0), 0);
        Edges.due("the least", x.firm(0, 1), Edges.NOT_ANY);
        Played.on(x, "say -1 0", "say 0 1");
        Edges.due("how many, of all", x.firm(0, 0), 10);
        Edges.due("the least, of all", x.firm(0, 1), 0);
        AuntsInTurn y = played("aunt 2 0 1", "say 0 0");
        Edges.due("how many, of 0 alone", y.firm(0, 0), 1);
        Edges.due("the least, of 0 alone", y.firm(0, 1), 0);
    }

    @Edge(of = "Promise 24: who", says = "WHO (bits).")
    static void whoOfNobodyAndOfAll() {
        Edges.due("no AUNTS", new AuntsInTurn().who(), 0);
        AuntsInTurn x = new AuntsInTurn();
        for (int many = 1; many <= 6; many++) {
            x.aunt(0, 0, 1);
            Edges.due("all of " + many, x.who(), (1 << many) - 1);
        }
        x.say(0, 1);
        for (int i = 0; i < 6; i++) {
            x.learn(i, 2);
            Edges.due("without " + i, x.who(), 63 & ~((2 << i) - 1));
        }
    }

    private static final String ODDS = "ODDS. NO: heard, fact, part, no AUNTS.";

    @Edge(of = "Promise 25: odds", says = ODDS)
    static void oddsOfHeardFactPartBesideTheirEnds() {
        for (int part = 0; part <= 1; part++) {
            int which = part;
            Edges.range(Edges.NO, 0, 255, "odds(n, 0, " + part + ")", (x, n) -> x.odds(n, 0, which));
            Edges.range(Edges.NO, 0, 7, "odds(0, n, " + part + ")", (x, n) -> x.odds(0, n, which));
        }
        Edges.only(Edges.NO, Scenes::some, "odds(0, 0, n)", (x, n) -> x.odds(0, 0, n), 0, 1);
        Edges.only(Edges.NO, Scenes::full, "odds(255, 7, n)", (x, n) -> x.odds(255, 7, n), 0, 1);
    }

    @Edge(of = "Promise 25: odds", says = ODDS)
    static void oddsOfNoAuntsAndOfOne() {
        for (int part = 0; part <= 1; part++) {
            int which = part;
            Edges.refused(Edges.NO, AuntsInTurn::new, "odds(0, 0, " + part + ") without AUNTS", x -> x.odds(0, 0, which));
            Edges.refused(Edges.NO, () -> played("asker", "asker"), "odds(1, 0, " + part + ") of ASKERS alone", x -> x.odds(1, 0, which));
            Edges.due("of one", played("aunt 0 0 1").odds(0, 0, part), part);
            Edges.due("of one, HEARD ahead of it", played("aunt 0 0 1").odds(1, 0, part), 1);
            Edges.due("of one who is AWAY", played("aunt 0 0 1", "away 0 true").odds(0, 0, part), part);
        }
    }

    @Edge(of = "Promise 26: mean", says = "MEAN. NO: part, no ASKERS.")
    static void meanOfPartBesideItsEndsAndOfNoAskers() {
        Edges.only(Edges.NO, Scenes::some, "mean(n)", (x, n) -> x.mean(n), 0, 1);
        Edges.only(Edges.NO, Scenes::full, "mean(n)", (x, n) -> x.mean(n), 0, 1);
        for (int part = 0; part <= 1; part++) {
            int which = part;
            Edges.refused(Edges.NO, AuntsInTurn::new, "mean(" + part + ") without ASKERS", x -> x.mean(which));
            Edges.refused(Edges.NO, () -> played("aunt 0 0 1"), "mean(" + part + ") of AUNTS alone", x -> x.mean(which));
            Edges.due("of one", played("asker").mean(part), part);
        }
    }

    private static final String PLAN = "A row comes to the PLAN: how many there are (what -1: none then, 0, whatever the other is). NONE: what, AUNT (by 1, 2), ASKER (by 3); FULL: 8.";

    @Edge(of = "Promise 27: plan", says = PLAN)
    static void planWhatBesideItsEnds() {
        for (int what = 0; what <= 3; what++) {
            Edges.taken(Scenes::some, "plan(n, 0)", what, (x, n) -> x.plan(n, 0));
        }
        Edges.above(Edges.NONE, 3, Scenes::some, "plan(n, 0)", (x, n) -> x.plan(n, 0));
        for (int n : new int[] {-2, -3, -1000, MIN}) {
            Edges.refused(Edges.NONE, "plan(" + n + ", 0)", x -> x.plan(n, 0));
        }
    }

    @Edge(of = "Promise 27: plan", says = PLAN)
    static void planOfAuntsAndAskersThatThereAre() {
        Edges.range(Edges.NONE, 0, 3, "plan(1, n)", (x, n) -> x.plan(1, n));
        Edges.range(Edges.NONE, 0, 3, "plan(2, n)", (x, n) -> x.plan(2, n));
        Edges.range(Edges.NONE, 0, 2, "plan(3, n)", (x, n) -> x.plan(3, n));
        for (int n : new int[] {0, -1, 3, 4, 999, MIN, MAX}) {
            Edges.taken(Scenes::some, "plan(0, n)", n, (x, other) -> x.plan(0, other));
            Edges.due("plan(0, " + n + ") of a new object", new AuntsInTurn().plan(0, n), 1);
        }
        for (int what = 1; what <= 3; what++) {
            int which = what;
            Edges.refused(Edges.NONE, AuntsInTurn::new, "plan(" + what + ", 0) of a new object", x -> x.plan(which, 0));
        }
        Edges.refused(Edges.NONE, () -> played("asker"), "plan(1, 0) of ASKERS alone", x -> x.plan(1, 0));
        Edges.refused(Edges.NONE, () -> played("asker"), "plan(2, 0) of ASKERS alone", x -> x.plan(2, 0));
        Edges.refused(Edges.NONE, () -> played("aunt 0 0 1"), "plan(3, 0) of AUNTS alone", x -> x.plan(3, 0));
    }

    @Edge(of = "Promise 27: plan", says = PLAN)
    static void planMinus1WhateverTheOtherIs() {
        for (int other : new int[] {0, 8, -1, -2, MIN, MAX}) {
            AuntsInTurn x = Scenes.full();
            Edges.due("plan(-1, " + other + ")", x.plan(-1, other), 0);
            Edges.due("rows", x.count(4), 0);
            Edges.due("DONE by no rows", x.done(0), x.told(4));
            Edges.due("the next one", x.plan(0, 0), 1);
            Edges.due("of no rows", new AuntsInTurn().plan(-1, other), 0);
        }
    }

    @Edge(of = "Promise 27: plan", says = PLAN)
    static void theEighthRowOfThePlanIsTakenTheNinthIsNot() {
        AuntsInTurn x = new AuntsInTurn();
        for (int i = 1; i <= 8; i++) {
            Edges.due("rows", x.plan(0, 0), i);
        }
        Edges.due("a ninth", x.plan(0, 0), Edges.FULL);
        Edges.refused(Edges.FULL, Scenes::full, "plan(0, 0)", y -> y.plan(0, 0));
        Edges.refused(Edges.FULL, Scenes::full, "plan(1, 5)", y -> y.plan(1, 5));
        Edges.refused(Edges.FULL, Scenes::full, "plan(3, 4)", y -> y.plan(3, 4));
        Edges.refused(Edges.NONE, Scenes::full, "NONE ahead of FULL: plan(4, 0)", y -> y.plan(4, 0));
        Edges.refused(Edges.NONE, Scenes::full, "NONE ahead of FULL: plan(-2, 0)", y -> y.plan(-2, 0));
        Edges.refused(Edges.NONE, Scenes::full, "NONE ahead of FULL: plan(1, 6)", y -> y.plan(1, 6));
        Edges.refused(Edges.NONE, Scenes::full, "NONE ahead of FULL: plan(2, -1)", y -> y.plan(2, -1));
        Edges.refused(Edges.NONE, Scenes::full, "NONE ahead of FULL: plan(3, 5)", y -> y.plan(3, 5));
    }

    @Edge(of = "Promise 28: done", says = "DONE: what 0 how many are BACK, 1 THROUGH. NONE.")
    static void doneOfWhatThereIs() {
        Edges.only(Edges.NONE, AuntsInTurn::new, "done(n) of a new object", (x, n) -> x.done(n), 0, 1);
        Edges.only(Edges.NONE, Scenes::some, "done(n)", (x, n) -> x.done(n), 0, 1);
        Edges.only(Edges.NONE, Scenes::full, "done(n)", (x, n) -> x.done(n), 0, 1);
        AuntsInTurn x = played("aunt 0 0 1", "asker", "asker", "asker", "begin 2 1", "text nerve 0", "valley", "plan 0 0");
        Edges.due("BACK", x.done(0), 2);
        Edges.due("THROUGH", x.done(1), 1);
    }

    private static final String BOOK = "A row comes to BOOK: how many there are (asker -1: none then, 0, whatever the other is). NONE; BAD: heard; FULL: 8.";

    @Edge(of = "Promise 29: book", says = BOOK)
    static void bookAskerAndHeardBesideTheirEnds() {
        for (int asker = 0; asker < 3; asker++) {
            int which = asker;
            Edges.taken(Scenes::some, "book(n, 0)", asker, (x, n) -> x.book(n, 0));
            Edges.range(Edges.BAD, 0, 255, "book(" + asker + ", n)", (x, n) -> x.book(which, n));
        }
        Edges.above(Edges.NONE, 2, Scenes::some, "book(n, 0)", (x, n) -> x.book(n, 0));
        for (int n : new int[] {-2, -3, -1000, MIN}) {
            Edges.refused(Edges.NONE, "book(" + n + ", 0)", x -> x.book(n, 0));
        }
        Edges.refused(Edges.NONE, AuntsInTurn::new, "book(0, 0) without ASKERS", x -> x.book(0, 0));
        Edges.refused(Edges.NONE, "NONE ahead of BAD: book(3, 256)", x -> x.book(3, 256));
        Edges.refused(Edges.NONE, "NONE ahead of BAD: book(-2, -1)", x -> x.book(-2, -1));
    }

    @Edge(of = "Promise 29: book", says = BOOK)
    static void bookMinus1WhateverTheOtherIs() {
        for (int other : new int[] {0, 255, 256, -1, MIN, MAX}) {
            AuntsInTurn x = Scenes.full();
            Edges.due("book(-1, " + other + ")", x.book(-1, other), 0);
            Edges.due("rows", x.count(5), 0);
            Edges.due("LOOKED at no rows", x.looked(), Edges.NOT_ANY);
            Edges.due("the next one", x.book(4, 0), 1);
            Edges.due("of no rows", new AuntsInTurn().book(-1, other), 0);
        }
    }

    @Edge(of = "Promise 29: book", says = BOOK)
    static void theEighthRowOfBookIsTakenTheNinthIsNot() {
        AuntsInTurn x = played("asker");
        for (int i = 1; i <= 8; i++) {
            Edges.due("rows", x.book(0, 0), i);
        }
        Edges.due("a ninth", x.book(0, 0), Edges.FULL);
        Edges.refused(Edges.FULL, Scenes::full, "book(0, 0)", y -> y.book(0, 0));
        Edges.refused(Edges.FULL, Scenes::full, "book(4, 255)", y -> y.book(4, 255));
        Edges.refused(Edges.NONE, Scenes::full, "NONE ahead of FULL: book(5, 0)", y -> y.book(5, 0));
        Edges.refused(Edges.NONE, Scenes::full, "NONE ahead of FULL: book(-2, 256)", y -> y.book(-2, 256));
        Edges.refused(Edges.BAD, Scenes::full, "BAD ahead of FULL: book(4, 256)", y -> y.book(4, 256));
        Edges.refused(Edges.BAD, Scenes::full, "BAD ahead of FULL: book(4, -1)", y -> y.book(4, -1));
    }

    @Edge(of = "Promise 30: looked", says = "LOOKED at; -5.")
    static void lookedAtEachPlaceOrNone() {
        Edges.due("no rows", new AuntsInTurn().looked(), Edges.NOT_ANY);
        for (int place = 0; place < 8; place++) {
            AuntsInTurn x = played("asker", "asker", "begin 1 255");
            for (int i = 0; i < 8; i++) {
                x.book(i == place ? 0 : 1, 255);
                Edges.due("by " + (i + 1) + " rows", x.looked(), i < place ? Edges.NOT_ANY : place);
            }
            x.begin(0, 255);
            Edges.due("all as booked", x.looked(), Edges.NOT_ANY);
        }
    }
}
