/** Boundary cases of promises 1 to 10: a new object, THE TAPE, VALLEYS, AUNTS. */
public final class EdgesOfPromises1To10Test {
    public static void main(String[] args) throws IllegalAccessException {
        Edges.run(EdgesOfPromises1To10Test.class);
    }

    private static AuntsInTurn played(String... calls) {
        return Edges.played(calls);
    }

    @Edge(of = "Promise 1: A new object", says = "No AUNTS, no ASKERS, no VALLEY.")
    static void nothingIsThereAtFirst() {
        AuntsInTurn x = new AuntsInTurn();
        for (int what = 0; what <= 7; what++) {
            Edges.due("count(" + what + ")", x.count(what), 0);
        }
        Edges.due("of(0, 0)", x.of(0, 0), Edges.NONE);
        Edges.due("at(0, 0)", x.at(0, 0), Edges.NONE);
        Edges.due("told(0)", x.told(0), 0);
        Edges.due("told(1)", x.told(1), 12);
        Edges.due("told(2)", x.told(2), 0);
        Edges.due("told(3)", x.told(3), 0);
        Edges.due("told(4)", x.told(4), 0);
        Edges.due("undo()", x.undo(), Edges.STATE);
        Edges.due("trace(0)", x.trace(0), Edges.NONE);
        Edges.due("valley()", x.valley(), -10);
        Edges.due("image()", x.image(), 0);
        Edges.due("undo()", x.undo(), 0);
    }

    private static final String FEED = "A sign (0 .. 127) comes behind THE TAPE's: how many it has. BAD; FULL.";

    @Edge(of = "Promise 2: feed", says = FEED)
    static void signs0To127() {
        Edges.range(Edges.BAD, 0, 127, "feed(n)", (x, n) -> x.feed(n));
        AuntsInTurn x = new AuntsInTurn();
        Edges.due("feed(127)", x.feed(127), 1);
        Edges.due("feed(128)", x.feed(128), Edges.BAD);
        Edges.due("feed(0)", x.feed(0), 2);
        Edges.due("feed(-1)", x.feed(-1), Edges.BAD);
        Edges.due("signs", x.count(6), 2);
    }

    @Edge(of = "Promise 2: feed", says = FEED)
    static void hundredSignsAndNoMore() {
        AuntsInTurn x = new AuntsInTurn();
        for (int i = 1; i <= 100; i++) {
            Edges.due("feed " + i, x.feed('n'), i);
        }
        Edges.due("feed 101", x.feed('n'), Edges.FULL);
        Edges.due("feed 102", x.feed('n'), Edges.FULL);
        Edges.due("signs", x.count(6), 100);
        Edges.due("FAULT at the second", x.valley(), -11);
        Edges.due("feed after valley()", x.feed('n'), 1);
        Edges.refused(Edges.FULL, Scenes::fullTape, "feed('1')", y -> y.feed('1'));
        Edges.refused(Edges.BAD, Scenes::fullTape, "BAD ahead of FULL: feed(128)", y -> y.feed(128));
        Edges.refused(Edges.BAD, Scenes::fullTape, "BAD ahead of FULL: feed(-1)", y -> y.feed(-1));
    }

    @Edge(of = "Promise 2: feed", says = FEED)
    static void whatIsRefusedIsNotOnTheTape() {
        AuntsInTurn x = new AuntsInTurn();
        for (char sign : "nerve 34".toCharArray()) {
            Edges.due("feed(128)", x.feed(128), Edges.BAD);
            x.feed(sign);
            Edges.due("feed(-1)", x.feed(-1), Edges.BAD);
        }
        Edges.due("valley()", x.valley(), 0);
        Edges.due("NERVE", x.told(1), 34);
    }

    @Edge(of = "Promise 3: valley", says = "THE TAPE, which is empty then (by a FAULT, too), is a VALLEY, and holds: its number;")
    static void theTapeIsEmptyThen() {
        AuntsInTurn x = played("text nerve 34");
        Edges.due("signs", x.count(6), 8);
        Edges.due("valley()", x.valley(), 0);
        Edges.due("signs after a VALLEY", x.count(6), 0);
        Edges.due("of an empty tape", x.valley(), -10);
        Check.feed(x, "nerve 3x");
        Edges.due("with a FAULT", x.valley(), -17);
        Edges.due("signs after a FAULT", x.count(6), 0);
        Check.feed(x, "nerve 5");
        Edges.due("nothing of the text with a FAULT is read", x.valley(), 1);
        Edges.due("NERVE", x.told(1), 5);
        for (int i = 2; i <= 4; i++) {
            Edges.due("its number", Check.valley(x, "nerve 6"), i);
        }
    }

    @Edge(of = "Promise 3: valley", says = "-10 less the FAULT (the one that held holds).")
    static void faultsFromTheFirstPlaceTo100() {
        AuntsInTurn x = played("aunt 0 1 1");
        Edges.due("an empty tape", x.valley(), -10);
        Edges.due("NERVE without one", x.told(1), 12);
        Edges.due("VALLEYS", x.count(2), 0);
        Played.on(x, "text nerve 34;bold 4 p=0", "valley");
        String of99 = "bold 1 " + "p=1&".repeat(23);
        String[] texts = {"", "x", "nx", "nerve", "nerve 7;x", of99 + "x", of99 + "p"};
        int[] faults = {0, 0, 1, 5, 8, 99, 100};
        for (int i = 0; i < texts.length; i++) {
            Edges.due("valley of '" + texts[i] + "'", Check.valley(x, texts[i]), -10 - faults[i]);
            Edges.due("NERVE by the one that held", x.told(1), 34);
            Edges.due("MOUTH by the one that held", x.says(0, 0, 1), 5);
            Edges.due("VALLEYS", x.count(2), 1);
            Edges.due("signs", x.count(6), 0);
        }
    }

    @Edge(of = "Promise 3: valley", says = "FULL (ahead of all; THE TAPE stays).")
    static void fullStandsAheadOfAFault() {
        for (String text : new String[] {"nerve 20", "", "x", "nerve"}) {
            AuntsInTurn x = Scenes.full();
            int signs = x.count(6);
            Check.feed(x, text);
            Edges.due("valley() of '" + text + "'", x.valley(), Edges.FULL);
            Edges.due("signs", x.count(6), signs + text.length());
            Edges.due("VALLEYS", x.count(2), 5);
            Edges.due("NERVE", x.told(1), 33);
        }
        Edges.refused(Edges.FULL, Scenes::full, "valley()", x -> x.valley());
    }

    @Edge(of = "Promise 3: valley", says = "FULL (ahead of all; THE TAPE stays).")
    static void theFifthIsTakenTheSixthIsNotTheTapeStays() {
        AuntsInTurn x = new AuntsInTurn();
        for (int i = 0; i < 4; i++) {
            Check.valley(x, "nerve 2" + i);
        }
        x.image();
        Edges.due("the fifth", Check.valley(x, "nerve 24"), 4);
        Edges.due("the sixth", Check.valley(x, "nerve 25"), Edges.FULL);
        Edges.due("the sixth again", x.valley(), Edges.FULL);
        Edges.due("more signs come behind those that stayed", x.feed(';'), 9);
        x.undo();
        Edges.due("with four", x.count(2), 4);
        Edges.due("the fifth again", Check.valley(x, "nerve 26"), 4);
        Edges.due("NERVE", x.told(1), 26);
    }

    private static final String AUNT = "One of AUNTS: her number. NONE: kind; BAD: v, knows; FULL: 6.";

    @Edge(of = "Promise 4: aunt", says = AUNT)
    static void kindVKnowsBesideTheirEnds() {
        Edges.range(Edges.NONE, 0, 6, "aunt(n, 9, 255)", (x, n) -> x.aunt(n, 9, 255));
        Edges.range(Edges.BAD, 0, 9, "aunt(6, n, 0)", (x, n) -> x.aunt(6, n, 0));
        Edges.range(Edges.BAD, 0, 255, "aunt(3, 0, n)", (x, n) -> x.aunt(3, 0, n));
        AuntsInTurn x = new AuntsInTurn();
        Edges.due("aunt(0, 0, 0)", x.aunt(0, 0, 0), 0);
        Edges.due("aunt(6, 9, 255)", x.aunt(6, 9, 255), 1);
        int[][] rows = {{0, 0, 0}, {6, 9, 255}};
        for (int i = 0; i < 2; i++) {
            for (int what = 0; what < 3; what++) {
                Edges.due("of(" + i + ", " + what + ")", x.of(i, what), rows[i][what]);
            }
        }
    }

    @Edge(of = "Promise 4: aunt", says = AUNT)
    static void fullFromTheSeventhOnBehindNoneAndBad() {
        Edges.refused(Edges.FULL, Scenes::full, "aunt(0, 0, 0)", x -> x.aunt(0, 0, 0));
        Edges.refused(Edges.FULL, Scenes::full, "aunt(6, 9, 255)", x -> x.aunt(6, 9, 255));
        Edges.refused(Edges.NONE, Scenes::full, "aunt(7, 0, 0)", x -> x.aunt(7, 0, 0));
        Edges.refused(Edges.NONE, Scenes::full, "aunt(-1, 10, 256)", x -> x.aunt(-1, 10, 256));
        Edges.refused(Edges.NONE, "aunt(7, 10, 0)", x -> x.aunt(7, 10, 0));
        Edges.refused(Edges.NONE, "aunt(7, 0, 256)", x -> x.aunt(7, 0, 256));
        Edges.refused(Edges.BAD, Scenes::full, "aunt(0, 10, 0)", x -> x.aunt(0, 10, 0));
        Edges.refused(Edges.BAD, Scenes::full, "aunt(0, 0, 256)", x -> x.aunt(0, 0, 256));
        Edges.refused(Edges.BAD, Scenes::full, "aunt(0, -1, -1)", x -> x.aunt(0, -1, -1));
    }

    @Edge(of = "Promise 5: of", says = "Of an AUNT what 0 KIND, 1 v, 2 what she KNOWS, 3 whether she is AWAY. NONE.")
    static void ofAnAuntAndWhatThatThereAre() {
        Edges.range(Edges.NONE, 0, 3, "of(n, 0)", (x, n) -> x.of(n, 0));
        Edges.range(Edges.NONE, 0, 5, Scenes::full, "of(n, 3)", (x, n) -> x.of(n, 3));
        for (int aunt = 0; aunt < 4; aunt++) {
            int which = aunt;
            Edges.only(Edges.NONE, Scenes::some, "of(" + aunt + ", n)", (x, n) -> x.of(which, n), 0, 1, 2, 3);
        }
        Edges.due("of(0, 0) without AUNTS", new AuntsInTurn().of(0, 0), Edges.NONE);
        AuntsInTurn x = Scenes.some();
        Edges.due("not AWAY", x.of(2, 3), 0);
        Edges.due("AWAY", x.of(3, 3), 1);
    }

    private static final String SAYS = "Of an AUNT by what is HEARD what 0 LEFT, 1 MOUTH, 2 what she SAYS today (AWAY or not). NONE: aunt, what; BAD: heard.";

    @Edge(of = "Promise 6: says", says = SAYS)
    static void saysOfAuntHeardWhatBesideTheirEnds() {
        for (int what = 0; what < 3; what++) {
            int which = what;
            Edges.range(Edges.NONE, 0, 3, "says(n, 255, " + what + ")", (x, n) -> x.says(n, 255, which));
            Edges.range(Edges.NONE, 0, 5, Scenes::full, "says(n, 0, " + what + ")", (x, n) -> x.says(n, 0, which));
            Edges.range(Edges.BAD, 0, 255, "says(0, n, " + what + ")", (x, n) -> x.says(0, n, which));
        }
        Edges.only(Edges.NONE, Scenes::some, "says(0, 0, n)", (x, n) -> x.says(0, 0, n), 0, 1, 2);
        Edges.due("says(0, 0, 0) without AUNTS", new AuntsInTurn().says(0, 0, 0), Edges.NONE);
    }

    @Edge(of = "Promise 6: says", says = SAYS)
    static void saysNoneAheadOfBad() {
        Edges.refused(Edges.NONE, "says(4, 256, 0)", x -> x.says(4, 256, 0));
        Edges.refused(Edges.NONE, "says(-1, -1, 2)", x -> x.says(-1, -1, 2));
        Edges.refused(Edges.NONE, "says(0, 256, 3)", x -> x.says(0, 256, 3));
        Edges.refused(Edges.NONE, "says(0, -1, -1)", x -> x.says(0, -1, -1));
        Edges.refused(Edges.NONE, "says(4, 0, 3)", x -> x.says(4, 0, 3));
        Edges.refused(Edges.BAD, "says(3, 256, 2)", x -> x.says(3, 256, 2));
    }

    @Edge(of = "Promise 6: says", says = SAYS)
    static void saysAwayOrNot() {
        AuntsInTurn x = played("aunt 0 1 15", "text bold 1 p=0", "valley");
        for (int i = 0; i < 2; i++) {
            Edges.due("LEFT", x.says(0, 1, 0), 14);
            Edges.due("MOUTH", x.says(0, 1, 1), 2);
            Edges.due("SAYS", x.says(0, 1, 2), 6);
            x.away(0, true);
        }
    }

    private static final String ROW = "The ROW of a TOLD one becomes n (0 .. 9) for DAYS modulo 4 being k: what it was. NONE: aunt, k; BAD; STATE: another KIND.";

    @Edge(of = "Promise 7: row", says = ROW)
    static void rowOfAuntKNBesideTheirEnds() {
        for (int k = 0; k < 4; k++) {
            int which = k;
            Edges.range(Edges.NONE, 0, 0, Scenes::told, "row(n, " + k + ", 5)", (x, n) -> x.row(n, which, 5));
            Edges.range(Edges.BAD, 0, 9, Scenes::told, "row(0, " + k + ", n)", (x, n) -> x.row(0, which, n));
        }
        Edges.range(Edges.NONE, 0, 3, "row(0, n, 0)", (x, n) -> x.row(0, n, 0));
        Edges.range(Edges.NONE, 0, 3, "row(0, n, 9)", (x, n) -> x.row(0, n, 9));
        AuntsInTurn x = Scenes.told();
        int[] were = {1, 2, 4, 9};
        for (int k = 0; k < 4; k++) {
            Edges.due("what it was", x.row(0, k, k), were[k]);
            Edges.due("what it became", x.row(0, k, 9), k);
        }
    }

    @Edge(of = "Promise 7: row", says = ROW)
    static void stateOfEachOtherKind() {
        for (int kind = 0; kind < 6; kind++) {
            String other = "aunt " + kind + " 1 255";
            Edges.refused(Edges.STATE, () -> played(other), "row(0, 0, 9) of KIND " + kind, x -> x.row(0, 0, 9));
            Edges.refused(Edges.STATE, () -> played(other), "row(0, 3, 0) of KIND " + kind, x -> x.row(0, 3, 0));
        }
        Edges.due("of a TOLD one", played("aunt 6 1 255").row(0, 0, 9), 0);
    }

    @Edge(of = "Promise 7: row", says = ROW)
    static void rowNoneAheadOfBadAheadOfState() {
        Edges.refused(Edges.NONE, "row(4, 0, 10)", x -> x.row(4, 0, 10));
        Edges.refused(Edges.NONE, "row(1, 4, 0)", x -> x.row(1, 4, 0));
        Edges.refused(Edges.NONE, "row(1, -1, 10)", x -> x.row(1, -1, 10));
        Edges.refused(Edges.NONE, "row(0, 4, 10)", x -> x.row(0, 4, 10));
        Edges.refused(Edges.BAD, "row(1, 0, 10)", x -> x.row(1, 0, 10));
        Edges.refused(Edges.BAD, "row(1, 3, -1)", x -> x.row(1, 3, -1));
        Edges.refused(Edges.STATE, "row(1, 3, 9)", x -> x.row(1, 3, 9));
    }

    @Edge(of = "Promise 8: learn", says = "What an AUNT KNOWS becomes FACTS: what it was. NONE; BAD.")
    static void learnOfAuntAndFactsBesideTheirEnds() {
        Edges.range(Edges.NONE, 0, 3, "learn(n, 255)", (x, n) -> x.learn(n, 255));
        Edges.range(Edges.NONE, 0, 5, Scenes::full, "learn(n, 0)", (x, n) -> x.learn(n, 0));
        Edges.range(Edges.BAD, 0, 255, "learn(3, n)", (x, n) -> x.learn(3, n));
        Edges.refused(Edges.NONE, "NONE ahead of BAD: learn(4, 256)", x -> x.learn(4, 256));
        Edges.refused(Edges.NONE, "NONE ahead of BAD: learn(-1, -1)", x -> x.learn(-1, -1));
        AuntsInTurn x = played("aunt 0 1 0");
        Edges.due("what it was", x.learn(0, 255), 0);
        Edges.due("what it became", x.learn(0, 0), 255);
        Edges.due("what it became then", x.learn(0, 0), 0);
    }

    @Edge(of = "Promise 9: away", says = "An AUNT is AWAY, or not: whether she was. NONE.")
    static void awayOfTheFirstAndTheLast() {
        Edges.range(Edges.NONE, 0, 3, "away(n, true)", (x, n) -> x.away(n, true));
        Edges.range(Edges.NONE, 0, 3, "away(n, false)", (x, n) -> x.away(n, false));
        Edges.range(Edges.NONE, 0, 5, Scenes::full, "away(n, true)", (x, n) -> x.away(n, true));
        AuntsInTurn x = Scenes.full();
        x.away(2, false);
        for (int aunt = 0; aunt < 6; aunt++) {
            Edges.due("she was not", x.away(aunt, false), 0);
            Edges.due("she was not", x.away(aunt, true), 0);
            Edges.due("she was", x.away(aunt, true), 1);
        }
        Edges.due("all", x.told(2), 63);
        for (int aunt = 0; aunt < 6; aunt++) {
            Edges.due("she was", x.away(aunt, false), 1);
            Edges.due("those who are still", x.told(2), 63 & ~((2 << aunt) - 1));
        }
    }

    @Edge(of = "Promise 10: weigh", says = "WEIGHT of a FACT becomes n: what it was. NONE; BAD.")
    static void weighOfFactAndNumberBesideTheirEnds() {
        Edges.range(Edges.NONE, 0, 7, "weigh(n, 0)", (x, n) -> x.weigh(n, 0));
        Edges.range(Edges.NONE, 0, 7, "weigh(n, 9)", (x, n) -> x.weigh(n, 9));
        Edges.range(Edges.BAD, 0, 9, "weigh(0, n)", (x, n) -> x.weigh(0, n));
        Edges.range(Edges.BAD, 0, 9, "weigh(7, n)", (x, n) -> x.weigh(7, n));
        Edges.refused(Edges.NONE, "NONE ahead of BAD: weigh(8, 10)", x -> x.weigh(8, 10));
        Edges.refused(Edges.NONE, "NONE ahead of BAD: weigh(-1, -1)", x -> x.weigh(-1, -1));
        AuntsInTurn x = new AuntsInTurn();
        for (int fact = 0; fact < 8; fact++) {
            Edges.due("what it was at first", x.weigh(fact, 9), 1);
            Edges.due("what it became", x.weigh(fact, 0), 9);
            Edges.due("what it became then", x.weigh(fact, 0), 0);
        }
    }
}
