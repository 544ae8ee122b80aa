/** Boundary cases of the first part of the Terms: what there is, in what numbers, and what holds at first. */
public final class EdgesOfTerms1Test {
    public static void main(String[] args) throws IllegalAccessException {
        Edges.run(EdgesOfTerms1Test.class);
    }

    private static AuntsInTurn played(String... calls) {
        return Edges.played(calls);
    }

    @Edge(of = "Terms 1", says = "FACTS are 0 .. 7")
    static void fact7IsThereFact8IsNot() {
        Edges.range(Edges.NONE, 0, 7, "weigh(n, 1)", (x, n) -> x.weigh(n, 1));
        Edges.range(Edges.NONE, 0, 7, "hush(n)", (x, n) -> x.hush(n));
        Edges.range(Edges.NO, 0, 7, "odds(0, n, 0)", (x, n) -> x.odds(0, n, 0));
    }

    @Edge(of = "Terms 1", says = "sets of them are told as bits (0 .. 255)")
    static void set255IsOneSet256IsNot() {
        Edges.range(Edges.BAD, 0, 255, "learn(0, n)", (x, n) -> x.learn(0, n));
        AuntsInTurn x = Scenes.some();
        x.learn(0, 255);
        Edges.due("all FACTS", x.of(0, 2), 255);
        x.learn(0, 0);
        Edges.due("no FACTS", x.of(0, 2), 0);
    }

    @Edge(of = "Terms 1", says = "each has a WEIGHT (0 .. 9; 1 at first)")
    static void weight0To9OfEachFact() {
        for (int fact = 0; fact <= 7; fact++) {
            int which = fact;
            AuntsInTurn x = new AuntsInTurn();
            Edges.due("at first, of " + fact, x.told(10 + fact), 1);
            x.weigh(fact, 9);
            Edges.due("9, of " + fact, x.told(10 + fact), 9);
            x.weigh(fact, 0);
            Edges.due("0, of " + fact, x.told(10 + fact), 0);
            Edges.refused(Edges.BAD, "10, of " + fact, y -> y.weigh(which, 10));
            Edges.refused(Edges.BAD, "-1, of " + fact, y -> y.weigh(which, -1));
        }
    }

    @Edge(of = "Terms 1", says = "AUNTS are numbered from 0 on, 6 at most")
    static void sixAuntsAndNotSeven() {
        AuntsInTurn x = new AuntsInTurn();
        for (int i = 0; i < 6; i++) {
            Edges.due("aunt " + i, x.aunt(0, i, i), i);
        }
        Edges.due("a seventh", x.aunt(0, 1, 1), Edges.FULL);
        Edges.due("six there are", x.count(0), 6);
        Edges.due("the sixth", x.of(5, 1), 5);
        Edges.due("the seventh is not", x.of(6, 1), Edges.NONE);
    }

    @Edge(of = "Terms 1", says = "each of a KIND: 0 AUNT; 1 BLUNT, 2 MEEK, 3 SLY under AUNT; 4 PIOUS under BLUNT; 5 BAKER under MEEK; 6 TOLD under SLY")
    static void kinds0To6() {
        Edges.range(Edges.NONE, 0, 6, "aunt(n, 1, 1)", (x, n) -> x.aunt(n, 1, 1));
        for (int kind = 0; kind <= 6; kind++) {
            AuntsInTurn x = new AuntsInTurn();
            x.aunt(kind, 1, 1);
            Edges.due("KIND", x.of(0, 0), kind);
        }
    }

    @Edge(of = "Terms 1", says = "a number v (0 .. 9)")
    static void v0To9() {
        Edges.range(Edges.BAD, 0, 9, "aunt(0, n, 1)", (x, n) -> x.aunt(0, n, 1));
        AuntsInTurn x = played("aunt 0 0 1", "aunt 0 9 1");
        Edges.due("v 0", x.of(0, 1), 0);
        Edges.due("v 9", x.of(1, 1), 9);
    }

    @Edge(of = "Terms 1", says = "what she KNOWS (FACTS), AWAY, or not (not at first)")
    static void nobodyIsAwayAtFirst() {
        AuntsInTurn x = new AuntsInTurn();
        for (int i = 0; i < 6; i++) {
            x.aunt(i, 1, 255);
            Edges.due("AWAY at first " + i, x.of(i, 3), 0);
        }
        Edges.due("AWAY at first", x.told(2), 0);
    }

    @Edge(of = "Terms 1", says = "TOLD ones a ROW of four numbers (0 .. 9; 0 at first)")
    static void rowOfFourNumbers() {
        AuntsInTurn x = played("aunt 6 1 255");
        for (int k = 0; k < 4; k++) {
            Edges.due("at first " + k, x.row(0, k, 9), 0);
        }
        for (int k = 0; k < 4; k++) {
            Edges.due("9 stands, 0 is taken " + k, x.row(0, k, 0), 9);
            Edges.due("0 stands " + k, x.row(0, k, 0), 0);
        }
        Edges.range(Edges.NONE, 0, 3, "row(0, n, 5)", (y, n) -> y.row(0, n, 5));
        for (int k = 0; k < 4; k++) {
            int which = k;
            Edges.range(Edges.BAD, 0, 9, "row(0, " + k + ", n)", (y, n) -> y.row(0, which, n));
        }
    }

    @Edge(of = "Terms 1", says = "ASKERS are numbered from 0 on, 5 at most")
    static void fiveAskersAndNotSix() {
        AuntsInTurn x = new AuntsInTurn();
        for (int i = 0; i < 5; i++) {
            Edges.due("asker " + i, x.asker(), i);
        }
        Edges.due("a sixth", x.asker(), Edges.FULL);
        Edges.due("five there are", x.count(1), 5);
        Edges.due("the fifth", x.at(4, 0), 0);
        Edges.due("the sixth is not", x.at(5, 0), Edges.NONE);
    }

    @Edge(of = "Terms 1", says = "each with what it HEARD (FACTS; none at first)")
    static void nothingIsHeardAtFirst() {
        AuntsInTurn x = played("aunt 0 1 255", "asker", "pass 1", "asker");
        Edges.due("HEARD at first", x.at(1, 0), 0);
        x.begin(1, 255);
        Edges.due("all FACTS", x.at(1, 0), 255);
    }

    /** As a FACT is HEARD once from its beginning on, no SHOCK is above 8 times 9: 9999 is never come to. */
    @Edge(of = "Terms 1", says = "SHOCK (0 .. 9999; 0 at first)")
    static void shock0AtFirstAnd72AtMost() {
        AuntsInTurn x = played("aunt 0 1 255", "asker");
        Edges.due("at first", x.at(0, 1), 0);
        for (int fact = 0; fact < 8; fact++) {
            x.weigh(fact, 9);
        }
        Played.on(x, "text nerve 99;bold 7 p<9", "valley", "pass 1");
        Edges.due("of all FACTS", x.at(0, 1), 72);
        Edges.due("HEARD", x.at(0, 0), 255);
        Edges.due("not BACK", x.at(0, 3), 0);
        AuntsInTurn y = played("aunt 0 1 255", "asker", "pass 1", "asker");
        Edges.due("at first, on a later DAY", y.at(1, 1), 0);
    }

    @Edge(of = "Terms 1", says = "a PLACE (the number of the AUNT it comes to next; 0 at first)")
    static void place0AtFirst() {
        AuntsInTurn x = played("asker", "aunt 0 1 1", "aunt 0 1 1", "pass 1", "asker");
        Edges.due("at first", x.at(1, 2), 0);
        Edges.due("a DAY on", x.at(0, 2), 1);
    }

    @Edge(of = "Terms 1", says = "BACK (turned back), or not (not at first)")
    static void notBackAtFirst() {
        AuntsInTurn x = played("text nerve 0", "valley", "aunt 0 1 1", "asker", "pass 1", "asker");
        Edges.due("turned back", x.at(0, 3), 1);
        Edges.due("at first", x.at(1, 3), 0);
        Edges.due("one is BACK", x.told(4), 1);
    }

    @Edge(of = "Terms 1", says = "DAY: 0 at first")
    static void day0AtFirst() {
        AuntsInTurn x = new AuntsInTurn();
        Edges.due("DAY", x.told(0), 0);
        Played.on(x, "aunt 0 1 1", "asker", "away 0 true", "image");
        Edges.due("DAY, no DAY gone", x.told(0), 0);
    }
}
