/** Boundary cases of the second part of the Terms: DAYS to come, CLIMBS, what was SAID, ODDS, the PLAN, BOOK, ACTS. */
public final class EdgesOfTerms2Test {
    public static void main(String[] args) throws IllegalAccessException {
        Edges.run(EdgesOfTerms2Test.class);
    }

    private static AuntsInTurn played(String... calls) {
        return Edges.played(calls);
    }

    private static final String ASKED = "All that follows is asked, goes on from how all is (DAY beyond 9999, SHOCK not held, too), "
        + "and changes nothing.";

    /** On DAY 9999 what two TOLD ones say by the ROW of DAY 9999 modulo 4 (3) and of DAY 10000 modulo 4 (0). */
    private static AuntsInTurn late() {
        AuntsInTurn x = new AuntsInTurn();
        for (int i = 0; i < 166; i++) {
            x.pass(60);
        }
        Played.on(x, "pass 39", "aunt 6 0 15", "aunt 6 0 15", "aunt 0 0 16", "row 0 3 1", "row 0 0 8", "row 1 0 2", "row 1 3 8",
            "asker", "text shy 1 p<2;bold 1 d=1", "valley");
        return x;
    }

    @Edge(of = "Terms 2", says = ASKED)
    static void daysToComeGoBeyond9999() {
        AuntsInTurn x = late();
        Edges.due("ON 0: HEARD", x.on(0, 10), 0);
        Edges.due("ON 1: HEARD on DAY 9999", x.on(1, 10), 1);
        Edges.due("ON 2: HEARD on DAY 10000", x.on(2, 10), 3);
        Edges.due("ON 3: HEARD on DAY 10001", x.on(3, 10), 19);
        Edges.due("ON 60: PLACE", x.on(60, 20), 3);
        Edges.due("ON 60: SHOCK", x.on(60, 30), 3);
        Edges.due("ON 60: BACK", x.on(60, 0), 0);
        Edges.due("COMES", x.at(0, 4), 19);
        Played.on(x, "plan 0 0", "plan 0 0", "plan 0 0");
        Edges.due("DONE, on DAY 10001", x.done(1), 1);
        Edges.due("DAY", x.told(0), 9999);
        Edges.due("no DAY more goes", x.pass(1), Edges.STATE);
    }

    @Edge(of = "Terms 2", says = ASKED)
    static void dOfADayBeyond9999() {
        AuntsInTurn x = late();
        Played.on(x, "text shy 1 d=9;bold 3 d=0;shy 1 d=1", "valley");
        // by MOUTH 0, 4 and 0: of the first her ROW's 0, of the second all, of the third none
        Edges.due("ON 2", x.on(2, 10), 15);
        Edges.due("ON 3", x.on(3, 10), 15);
        Edges.due("COMES", x.at(0, 4), 15);
    }

    @Edge(of = "Terms 2", says = ASKED)
    static void theMostShockToCome() {
        AuntsInTurn x = played("aunt 0 1 15", "aunt 0 1 255", "asker", "text nerve 72;bold 3 p<9", "valley");
        for (int fact = 0; fact < 8; fact++) {
            x.weigh(fact, 9);
        }
        Edges.due("ON: SHOCK", x.on(2, 30), 72);
        Edges.due("ON: BACK", x.on(2, 0), 0);
        Edges.due("CLIMB: SHOCK", x.climb(0, 0, 1), 72);
        Edges.due("CLIMB: BACK", x.climb(0, 0, 2), Edges.NOT_ANY);
        Edges.due("ORDER: SHOCK", x.order(0, 1), 72);
        Played.on(x, "text nerve 71;bold 3 p<9", "valley");
        Edges.due("ON: BACK above NERVE", x.on(2, 0), 1);
        Edges.due("CLIMB: BACK above NERVE", x.climb(0, 0, 2), 1);
        Edges.due("ORDER that is not BACK", x.order(0, 1), 36);
    }

    @Edge(of = "Terms 2", says = ASKED)
    static void whatIsAskedChangesNothing() {
        AuntsInTurn x = Scenes.some();
        long sum = x.on(60, 0) + x.on(60, 12) + x.on(0, 20) + x.on(1, 31) + x.at(0, 4) + x.climb(0, 0, 0) + x.climb(1, 255, 2)
            + x.order(0, 0) + x.order(0, 13) + x.hush(0) + x.whole(0) + x.knew(0, 0) + x.knew(3, 1) + x.firm(2, 0) + x.who()
            + x.odds(0, 0, 0) + x.mean(0) + x.done(0) + x.done(1) + x.looked() + x.trace(0) + x.as(0, 3) + x.count(0);
        Edges.same("asking for all (" + sum + ")", x, Scenes.some());
        AuntsInTurn y = Scenes.full();
        sum = y.on(60, 0) + y.on(60, 14) + y.at(4, 4) + y.climb(0, 0, 0) + y.order(0, 15) + y.hush(7) + y.whole(0) + y.knew(5, 0)
            + y.firm(5, 0) + y.who() + y.odds(0, 7, 1) + y.mean(1) + y.done(1) + y.looked();
        Edges.same("asking where all is full (" + sum + ")", y, Scenes.full());
    }

    @Edge(of = "Terms 2", says = "ON n DAYS (0 .. 60): how many are BACK; what one HEARD; its PLACE; its SHOCK.")
    static void on0DaysIsAsNow() {
        AuntsInTurn x = Scenes.some();
        Edges.due("BACK", x.on(0, 0), x.told(4));
        for (int i = 0; i < 3; i++) {
            Edges.due("HEARD by " + i, x.on(0, 10 + i), x.at(i, 0));
            Edges.due("PLACE of " + i, x.on(0, 20 + i), x.at(i, 2));
            Edges.due("SHOCK of " + i, x.on(0, 30 + i), x.at(i, 1));
        }
    }

    @Edge(of = "Terms 2", says = "ON n DAYS (0 .. 60): how many are BACK; what one HEARD; its PLACE; its SHOCK.")
    static void on60DaysIsAsAfterThem() {
        Edges.range(Edges.BAD, 0, 60, "on(n, 0)", (x, n) -> x.on(n, 0));
        for (int n : new int[] {1, 2, 59, 60}) {
            AuntsInTurn x = Scenes.some();
            AuntsInTurn then = Scenes.some();
            then.pass(n);
            Edges.due("BACK on " + n, x.on(n, 0), then.told(4));
            for (int i = 0; i < 3; i++) {
                Edges.due("HEARD on " + n, x.on(n, 10 + i), then.at(i, 0));
                Edges.due("PLACE on " + n, x.on(n, 20 + i), then.at(i, 2));
                Edges.due("SHOCK on " + n, x.on(n, 30 + i), then.at(i, 1));
            }
        }
    }

    @Edge(of = "Terms 2", says = "ON n DAYS (0 .. 60): how many are BACK; what one HEARD; its PLACE; its SHOCK.")
    static void onDaysSheSaysByHerNumberKindAndV() {
        int[] heard = {7, 7, 7, 224, 7, 7, 224};
        for (int kind = 0; kind <= 6; kind++) {
            AuntsInTurn x = played("aunt 0 7 0", "aunt " + kind + " 7 231", "asker", "text bold 2 p=1&v=7&k=" + kind, "valley");
            Edges.due("HEARD of KIND " + kind, x.on(2, 10), heard[kind]);
            Edges.due("COMES past KIND " + kind, x.at(0, 4), heard[kind]);
            Edges.due("SHOCK of KIND " + kind, x.on(2, 30), 3);
        }
    }

    private static final String COMES = "COMES of one: what it HEARD when it is THROUGH, going on day by day (-5: it is BACK ahead of that, or now).";

    @Edge(of = "Terms 2", says = COMES)
    static void comesOfOneWhoIsBackAheadOfThatOrNow() {
        AuntsInTurn x = played("aunt 0 0 1", "aunt 0 0 2", "asker", "text nerve 1", "valley");
        Edges.due("BACK at the last", x.at(0, 4), Edges.NOT_ANY);
        x.pass(1);
        Edges.due("BACK at the next", x.at(0, 4), Edges.NOT_ANY);
        x.pass(1);
        Edges.due("is BACK", x.at(0, 3), 1);
        Edges.due("BACK now", x.at(0, 4), Edges.NOT_ANY);
        AuntsInTurn y = played("aunt 0 0 1", "aunt 0 0 2", "asker", "text nerve 2", "valley");
        Edges.due("SHOCK at NERVE at the last", y.at(0, 4), 3);
        AuntsInTurn z = played("aunt 0 0 1", "asker", "text nerve 0", "valley");
        Edges.due("BACK at the only one", z.at(0, 4), Edges.NOT_ANY);
        z.away(0, true);
        Edges.due("the only one is AWAY", z.at(0, 4), 0);
    }

    @Edge(of = "Terms 2", says = COMES)
    static void comesOfOneWhoIsThroughNow() {
        AuntsInTurn x = played("asker", "begin 0 9");
        Edges.due("where there are no AUNTS", x.at(0, 4), 9);
        Played.on(x, "aunt 0 0 2", "pass 1");
        Edges.due("behind the last", x.at(0, 4), 11);
        x.aunt(0, 0, 4);
        Edges.due("where one more came", x.at(0, 4), 15);
        AuntsInTurn y = new AuntsInTurn();
        for (int i = 0; i < 6; i++) {
            y.aunt(0, 0, 1 << i);
        }
        y.asker();
        for (int i = 0; i <= 7; i++) {
            Edges.due("past six, DAY " + i, y.at(0, 4), 63);
            y.pass(1);
        }
    }

    private static void climb(AuntsInTurn x, int way, int from, int heard, int shock, int back) {
        Edges.due("CLIMB " + way + " from " + from + ": HEARD", x.climb(way, from, 0), heard);
        Edges.due("CLIMB " + way + " from " + from + ": SHOCK", x.climb(way, from, 1), shock);
        Edges.due("CLIMB " + way + " from " + from + ": BACK", x.climb(way, from, 2), back);
    }

    private static final String CLIMB = "A CLIMB from what is HEARD, on this DAY, with no SHOCK at first, comes to all AUNTS who are not AWAY, 0 first (up), or the last first (down)";
    private static final String CLIMB_ENDS = "it ends BACK at whom SHOCK is above NERVE: what is HEARD in the end; SHOCK; the AUNT at whom it is BACK (-5: none).";

    @Edge(of = "Terms 2", says = CLIMB)
    static void climbPastNobody() {
        AuntsInTurn x = new AuntsInTurn();
        climb(x, 0, 0, 0, 0, -5);
        climb(x, 1, 255, 255, 0, -5);
        Played.on(x, "aunt 0 0 255", "away 0 true");
        climb(x, 0, 0, 0, 0, -5);
        climb(x, 1, 1, 1, 0, -5);
    }

    @Edge(of = "Terms 2", says = CLIMB)
    static void climbFromTheFirstOrFromTheLast() {
        AuntsInTurn x = played("aunt 0 0 1", "aunt 0 0 2", "aunt 0 0 3", "away 1 true");
        climb(x, 0, 0, 3, 2, -5);
        climb(x, 1, 0, 1, 1, -5);
        x.away(1, false);
        climb(x, 0, 0, 3, 2, -5);
        climb(x, 1, 0, 3, 2, -5);
        AuntsInTurn y = played("aunt 0 0 255");
        climb(y, 0, 0, 1, 1, -5);
        climb(y, 1, 0, 1, 1, -5);
        AuntsInTurn z = played("aunt 0 0 3", "asker", "pass 1");
        // what an asker HEARD and its SHOCK are not the climber's
        climb(z, 0, 0, 1, 1, -5);
    }

    @Edge(of = "Terms 2", says = CLIMB)
    static void climbPastTheFirstOrTheLastWhoIsAway() {
        AuntsInTurn x = played("aunt 0 0 1", "aunt 0 0 2", "aunt 0 0 4", "weigh 0 2", "weigh 1 3", "weigh 2 4", "away 0 true");
        climb(x, 0, 0, 6, 7, -5);
        climb(x, 1, 0, 6, 7, -5);
        Played.on(x, "away 0 false", "away 2 true");
        climb(x, 0, 0, 3, 5, -5);
        climb(x, 1, 0, 3, 5, -5);
        Played.on(x, "text nerve 2", "valley");
        climb(x, 0, 0, 3, 5, 1);
        climb(x, 1, 0, 2, 3, 1);
        x.away(1, true);
        climb(x, 0, 0, 1, 2, -5);
        climb(x, 1, 0, 1, 2, -5);
    }

    @Edge(of = "Terms 2", says = CLIMB)
    static void climbIsOnThisDay() {
        AuntsInTurn x = played("aunt 6 0 15", "aunt 6 0 15", "row 0 0 1", "row 1 0 2", "row 0 1 4", "row 1 1 8", "text shy 1 p<9", "valley");
        climb(x, 0, 0, 3, 2, -5);
        x.pass(1);
        climb(x, 0, 0, 12, 2, -5);
        x.pass(3);
        climb(x, 1, 0, 3, 2, -5);
    }

    @Edge(of = "Terms 2", says = CLIMB_ENDS)
    static void climbIsBackAboveNerveAndNotAtIt() {
        AuntsInTurn x = played("aunt 0 0 1", "aunt 0 0 2", "aunt 0 0 4", "weigh 0 2", "weigh 1 3", "weigh 2 4", "text nerve 9", "valley");
        climb(x, 0, 0, 7, 9, -5);
        climb(x, 1, 0, 7, 9, -5);
        Played.on(x, "text nerve 8", "valley");
        climb(x, 0, 0, 7, 9, 2);
        climb(x, 1, 0, 7, 9, 0);
        Played.on(x, "text nerve 4", "valley");
        climb(x, 0, 0, 3, 5, 1);
        climb(x, 1, 0, 6, 7, 1);
        Played.on(x, "text nerve 1", "valley");
        climb(x, 0, 0, 1, 2, 0);
        climb(x, 1, 0, 4, 4, 2);
        AuntsInTurn y = played("aunt 0 0 1", "weigh 0 0", "text nerve 0", "valley");
        climb(y, 0, 0, 1, 0, -5);
        y.weigh(0, 1);
        climb(y, 0, 0, 1, 1, 0);
        climb(y, 0, 1, 1, 0, -5);
    }

    private static void order(AuntsInTurn x, int from, int facts, int shock, int... row) {
        Edges.due("ORDER from " + from + ": FACTS", x.order(from, 0), facts);
        Edges.due("ORDER from " + from + ": SHOCK", x.order(from, 1), shock);
        for (int k = 0; k < 6; k++) {
            Edges.due("ORDER from " + from + ": " + k + "-th", x.order(from, 10 + k), k < row.length ? row[k] : Edges.NOT_ANY);
        }
    }

    private static final String ORDER = "ORDER from what is HEARD: of all orders of all AUNTS (AWAY ones, too), a CLIMB by which is not BACK";
    private static final String ORDER_BEST = "that by which most FACTS are HEARD in the end, of these that with the least SHOCK (of several the first as a row of numbers): how many FACTS; SHOCK; the k-th AUNT (-5 each: by each order it is BACK).";

    @Edge(of = "Terms 2", says = ORDER)
    static void orderOfNobodyAndOfThoseWhoAreAway() {
        order(new AuntsInTurn(), 0, 0, 0);
        order(new AuntsInTurn(), 255, 8, 0);
        AuntsInTurn x = played("aunt 0 0 255", "away 0 true");
        order(x, 0, 0, 0, 0);
        x.away(0, false);
        order(x, 0, 1, 1, 0);
        // the one who is AWAY stands in the row, and the first row is told; nobody comes to her
        AuntsInTurn y = played("aunt 0 0 3", "aunt 0 0 1", "aunt 0 0 4", "away 2 true");
        order(y, 0, 2, 2, 1, 0, 2);
        Played.on(y, "away 2 false", "away 0 true");
        order(y, 0, 2, 2, 0, 1, 2);
        Played.on(y, "away 1 true", "away 2 true");
        order(y, 0, 0, 0, 0, 1, 2);
    }

    @Edge(of = "Terms 2", says = ORDER)
    static void orderOfSix() {
        order(played("aunt 0 0 63", "aunt 0 0 31", "aunt 0 0 15", "aunt 0 0 7", "aunt 0 0 3", "aunt 0 0 1"), 0, 6, 6, 5, 4, 3, 2, 1, 0);
        order(played("aunt 0 0 1", "aunt 0 0 2", "aunt 0 0 4", "aunt 0 0 8", "aunt 0 0 16", "aunt 0 0 32"), 0, 6, 6, 0, 1, 2, 3, 4, 5);
    }

    @Edge(of = "Terms 2", says = ORDER_BEST)
    static void ofSeveralOrdersTheFirst() {
        order(played("aunt 0 0 1", "aunt 0 0 1"), 0, 1, 1, 0, 1);
        order(played("aunt 0 0 0", "aunt 0 0 0", "aunt 0 0 0"), 9, 2, 0, 0, 1, 2);
        // 2 must be ahead of 0, and 1 may stand anywhere
        order(played("aunt 0 0 3", "aunt 0 0 4", "aunt 0 0 1"), 0, 3, 3, 1, 2, 0);
    }

    @Edge(of = "Terms 2", says = ORDER_BEST)
    static void ofTheMostFactsTheLeastShock() {
        // one of the two MEEK ones (v 1) is HEARD alone, then nothing of the other
        AuntsInTurn x = played("aunt 2 1 1", "aunt 2 1 2", "weigh 0 5", "weigh 1 5");
        order(x, 0, 1, 5, 0, 1);
        x.weigh(1, 4);
        order(x, 0, 1, 4, 1, 0);
        x.weigh(1, 6);
        order(x, 0, 1, 5, 0, 1);
        // one FACT more is ahead of any SHOCK
        AuntsInTurn y = played("aunt 2 1 1", "aunt 0 0 2", "weigh 0 9", "weigh 1 0");
        order(y, 0, 2, 9, 0, 1);
        Played.on(y, "text nerve 8", "valley");
        order(y, 0, 1, 0, 1, 0);
    }

    @Edge(of = "Terms 2", says = ORDER_BEST)
    static void byEachOrderBack() {
        AuntsInTurn x = played("aunt 2 1 1", "aunt 2 1 2", "weigh 0 5", "weigh 1 5", "text nerve 5", "valley");
        order(x, 0, 1, 5, 0, 1);
        Played.on(x, "text nerve 4", "valley");
        order(x, 0, -5, -5);
        x.weigh(1, 4);
        order(x, 0, 1, 4, 1, 0);
        x.weigh(1, 5);
        order(x, 1, 1, 0, 0, 1);
        Played.on(x, "away 0 true", "away 1 true");
        order(x, 0, 0, 0, 0, 1);
    }

    private static final String HUSH = "HUSH of a FACT: the set with the fewest AUNTS by whom being AWAY, too, that FACT is not HEARD by a CLIMB up from nothing (of several the least as bits; -5: none).";

    @Edge(of = "Terms 2", says = HUSH)
    static void hushByNobodyAndByAll() {
        Edges.due("no AUNTS", new AuntsInTurn().hush(0), 0);
        AuntsInTurn x = played("aunt 0 0 1", "aunt 0 0 1", "aunt 0 0 1", "aunt 0 0 1", "aunt 0 0 1", "aunt 0 0 1");
        Edges.due("all six", x.hush(0), 63);
        Edges.due("nobody", x.hush(7), 0);
        x.away(5, true);
        Edges.due("all but who is AWAY", x.hush(0), 31);
        x.away(0, true);
        Edges.due("all but both who are AWAY", x.hush(0), 30);
        for (int i = 0; i < 6; i++) {
            x.away(i, true);
        }
        Edges.due("all are AWAY", x.hush(0), 0);
    }

    @Edge(of = "Terms 2", says = HUSH)
    static void hushOfSeveralTheLeast() {
        // FACT 1 is HEARD of the last where FACT 0 is HEARD ahead of her, that of the second: one of the two
        AuntsInTurn x = played("aunt 0 0 4", "aunt 0 0 5", "aunt 0 0 3");
        Edges.due("FACT 1", x.hush(1), 2);
        x.learn(0, 1);
        Edges.due("FACT 1, if the first says FACT 0, too", x.hush(1), 4);
        AuntsInTurn y = played("aunt 0 0 3", "aunt 0 0 1", "aunt 0 0 3");
        Edges.due("FACT 0", y.hush(0), 7);
        Edges.due("FACT 1", y.hush(1), 4);
        // by one fewer, though as bits that is more
        AuntsInTurn z = played("aunt 0 0 1", "aunt 0 0 1", "aunt 0 0 7");
        Edges.due("FACT 1", z.hush(1), 4);
        AuntsInTurn w = played("aunt 5 0 0", "aunt 5 0 0");
        Edges.due("FACT 0 of those who do not KNOW it", w.hush(0), 3);
    }

    @Edge(of = "Terms 2", says = "WHOLE: the set with the fewest AUNTS (AWAY or not) who together KNOW all that all AUNTS KNOW (of several the least as bits); how many FACTS that is.")
    static void wholeOfNobodyAndOfAll() {
        AuntsInTurn x = new AuntsInTurn();
        Edges.due("no AUNTS", x.whole(0), 0);
        Edges.due("no FACTS", x.whole(1), 0);
        Played.on(x, "aunt 0 0 0", "aunt 0 0 0");
        Edges.due("AUNTS who KNOW nothing", x.whole(0), 0);
        Edges.due("no FACTS of theirs", x.whole(1), 0);
        AuntsInTurn y = played("aunt 0 0 1", "aunt 0 0 2", "aunt 0 0 4", "aunt 0 0 8", "aunt 0 0 16", "aunt 0 0 224");
        Edges.due("all six", y.whole(0), 63);
        Edges.due("all FACTS", y.whole(1), 8);
        Played.on(y, "away 0 true", "away 5 true");
        Edges.due("all six, AWAY or not", y.whole(0), 63);
        y.learn(5, 255);
        Edges.due("the last alone", y.whole(0), 32);
        y.learn(4, 255);
        Edges.due("of several the least", y.whole(0), 16);
        AuntsInTurn z = played("aunt 0 0 3", "aunt 0 0 12", "aunt 0 0 6", "aunt 0 0 15");
        Edges.due("fewer are ahead of less as bits", z.whole(0), 8);
        z.learn(3, 9);
        Edges.due("of several pairs the least", z.whole(0), 3);
        z.learn(0, 2);
        Edges.due("another pair", z.whole(0), 12);
    }

    @Edge(of = "Terms 2", says = "SAID told by hand: what was HEARD and what was SAID then (FACTS both); 5 at most.")
    static void fiveRowsOfSaid() {
        Edges.range(Edges.BAD, 0, 255, "say(0, n)", (x, n) -> x.say(0, n));
        AuntsInTurn x = new AuntsInTurn();
        for (int i = 1; i <= 5; i++) {
            Edges.due("row " + i, x.say(255, 0), i);
        }
        Edges.due("a sixth", x.say(255, 0), Edges.FULL);
        Edges.due("rows", x.count(3), 5);
    }

    private static final String KNEW = "KNEW of an AUNT: how many sets (0 .. 255) there are by which, were that what she KNOWS, she SAYS just that in each row of SAID, on this DAY; the least (-5: none).";

    private static void knew(AuntsInTurn x, int many, int least) {
        Edges.due("KNEW: how many", x.knew(0, 0), many);
        Edges.due("KNEW: the least", x.knew(0, 1), least);
    }

    @Edge(of = "Terms 2", says = KNEW)
    static void knewOfEachSetFrom0To255() {
        AuntsInTurn x = played("aunt 0 0 9", "text bold 7 p=0", "valley");
        knew(x, 256, 0);
        x.say(0, 255);
        knew(x, 1, 255);
        Played.on(x, "say -1 0", "say 0 0");
        knew(x, 1, 0);
        Played.on(x, "say -1 0", "say 127 128");
        knew(x, 128, 128);
        Played.on(x, "say -1 0", "say 254 0");
        knew(x, 128, 0);
        x.say(0, 1);
        knew(x, 0, Edges.NOT_ANY);
        Played.on(x, "say -1 0", "say 255 1");
        knew(x, 0, Edges.NOT_ANY);
        Played.on(x, "say -1 0", "say 255 0");
        knew(x, 256, 0);
    }

    @Edge(of = "Terms 2", says = KNEW)
    static void knewByEachRowToTheFifth() {
        AuntsInTurn x = played("aunt 0 0 0", "say 0 1", "say 1 2", "say 3 4", "say 7 8");
        knew(x, 16, 15);
        x.say(15, 16);
        knew(x, 8, 31);
        Played.on(x, "say -1 0", "say 0 1", "say 1 2", "say 3 4", "say 7 8", "say 15 8");
        knew(x, 0, Edges.NOT_ANY);
    }

    @Edge(of = "Terms 2", says = KNEW)
    static void knewIsOnThisDay() {
        AuntsInTurn x = played("aunt 6 0 0", "row 0 3 1", "text shy 1 d=3", "valley", "say 0 1", "pass 2");
        knew(x, 1, 1);
        x.pass(1);
        // by her ROW alone now: all sets with FACT 0
        knew(x, 128, 1);
        x.pass(1);
        knew(x, 1, 1);
    }

    private static final String FIRM = "FIRM of one: how many numbers v (0 .. 9) likewise; the least (-5: none).";

    @Edge(of = "Terms 2", says = KNEW)
    static void knewOfHerByHerNumberKindAndV() {
        // MOUTH is 3 of AUNT 2 with v 7 alone; of KIND, what is SAID, how many sets, the least
        int[][] rows = {{0, 7, 32, 7}, {1, 7, 32, 7}, {2, 7, 32, 7}, {3, 224, 32, 224}, {4, 7, 32, 7}, {5, 7, 33, 6}, {6, 224, 32, 224}};
        for (int[] row : rows) {
            AuntsInTurn x = played("aunt 0 7 1", "aunt 0 7 1", "aunt " + row[0] + " 7 9", "text bold 2 p=2&v=7&k=" + row[0], "valley");
            x.say(0, row[1]);
            Edges.due("how many of KIND " + row[0], x.knew(2, 0), row[2]);
            Edges.due("the least of KIND " + row[0], x.knew(2, 1), row[3]);
            Edges.due("of one who has MOUTH 1", x.knew(1, 0), 0);
            Edges.due("she KNOWS as before", x.of(2, 2), 9);
        }
    }

    private static void firm(AuntsInTurn x, int many, int least) {
        Edges.due("FIRM: how many", x.firm(0, 0), many);
        Edges.due("FIRM: the least", x.firm(0, 1), least);
    }

    @Edge(of = "Terms 2", says = FIRM)
    static void firmOfEachNumberFrom0To9() {
        AuntsInTurn x = played("aunt 2 4 255");
        firm(x, 10, 0);
        x.say(127, 0);
        // 7 HEARD: silent if v is 0 to 7
        firm(x, 8, 0);
        Played.on(x, "say -1 0", "say 127 128");
        firm(x, 2, 8);
        Played.on(x, "text bold 1 v=9", "valley", "say -1 0", "say 63 192");
        firm(x, 1, 9);
        Played.on(x, "say -1 0", "say 0 0");
        firm(x, 1, 0);
        Played.on(x, "say -1 0", "say 0 128");
        firm(x, 0, Edges.NOT_ANY);
        Edges.due("her own v stays", x.of(0, 1), 4);
    }

    @Edge(of = "Terms 2", says = "WHO: those AUNTS, as bits, who do so as they are (AWAY or not).")
    static void whoIsNobodyAndAll() {
        Edges.due("no AUNTS", new AuntsInTurn().who(), 0);
        AuntsInTurn x = played("aunt 0 0 1", "aunt 0 0 1", "aunt 0 0 1", "aunt 0 0 1", "aunt 0 0 1", "aunt 0 0 1");
        Edges.due("no rows", x.who(), 63);
        Played.on(x, "say 0 1", "say 0 1", "say 0 1", "say 0 1", "away 0 true", "away 5 true");
        Edges.due("all six, AWAY or not", x.who(), 63);
        x.say(1, 0);
        Edges.due("all six by five rows", x.who(), 63);
        x.learn(5, 3);
        Edges.due("by the fifth row not the last", x.who(), 31);
        x.learn(0, 0);
        Edges.due("by the first row not the first", x.who(), 30);
        Played.on(x, "say -1 0", "say 0 128");
        Edges.due("nobody", x.who(), 0);
    }

    private static void odds(AuntsInTurn x, int heard, int fact, long above, long below) {
        Edges.due("ODDS above of " + fact + " from " + heard, x.odds(heard, fact, 0), above);
        Edges.due("ODDS below of " + fact + " from " + heard, x.odds(heard, fact, 1), below);
    }

    private static final String ODDS = "ODDS of what is HEARD and a FACT: if one of AUNTS, each alike likely, is AWAY, too: how likely that FACT is HEARD by a CLIMB up from there (or is HEARD ahead of it): a fraction in lowest terms (NO: there are none).";

    @Edge(of = "Terms 2", says = ODDS)
    static void oddsOfNobodyOfOneAndOfSix() {
        AuntsInTurn x = new AuntsInTurn();
        odds(x, 0, 0, Edges.NO, Edges.NO);
        odds(x, 255, 0, Edges.NO, Edges.NO);
        x.aunt(0, 0, 1);
        odds(x, 0, 0, 0, 1);
        odds(x, 1, 0, 1, 1);
        odds(x, 128, 7, 1, 1);
        Played.on(x, "aunt 0 0 0", "aunt 0 0 0", "aunt 0 0 0", "aunt 0 0 0", "aunt 0 0 0");
        odds(x, 0, 0, 5, 6);
        odds(x, 0, 7, 0, 1);
        x.aunt(0, 0, 0);
        Played.on(x, "away 0 true");
        odds(x, 0, 0, 0, 1);
    }

    @Edge(of = "Terms 2", says = ODDS)
    static void oddsInLowestTerms() {
        AuntsInTurn x = played("aunt 0 0 1", "aunt 0 0 3", "aunt 0 0 7", "aunt 0 0 15", "aunt 0 0 31", "aunt 0 0 63");
        odds(x, 0, 0, 1, 1);
        odds(x, 0, 5, 0, 1);
        odds(x, 31, 5, 5, 6);
        // the greatest FACT of each further one is HEARD where she and all ahead of her are there
        AuntsInTurn y = played("aunt 0 0 1", "aunt 0 0 3", "aunt 0 0 0", "aunt 0 0 0", "aunt 0 0 0", "aunt 0 0 0");
        odds(y, 0, 0, 1, 1);
        odds(y, 0, 1, 2, 3);
        y.learn(2, 7);
        odds(y, 0, 2, 1, 2);
        y.learn(3, 15);
        odds(y, 0, 3, 1, 3);
        y.learn(4, 31);
        odds(y, 0, 4, 1, 6);
    }

    @Edge(of = "Terms 2", says = ODDS)
    static void oddsWithOneWhoIsAway() {
        AuntsInTurn x = played("aunt 0 0 1", "aunt 0 0 2", "away 0 true");
        odds(x, 0, 0, 0, 1);
        // she who is AWAY is one of those who may be: with her alone AWAY, FACT 1 is HEARD
        odds(x, 0, 1, 1, 2);
        Played.on(x, "text nerve 0", "valley");
        // BACK at her who SAYS it, and HEARD
        odds(x, 0, 1, 1, 2);
    }

    @Edge(of = "Terms 2", says = "MEAN: SHOCK of all ASKERS, together, by how many they are: a fraction in lowest terms (NO: there are none).")
    static void meanOfNobodyOfOneAndOfFive() {
        AuntsInTurn x = new AuntsInTurn();
        Edges.due("no ASKERS", x.mean(0), Edges.NO);
        Edges.due("no ASKERS", x.mean(1), Edges.NO);
        Played.on(x, "aunt 0 0 1", "weigh 0 6", "asker");
        long[][] rows = {{0, 1}, {6, 1}, {3, 1}, {2, 1}, {3, 2}, {6, 5}};
        Edges.due("of 0, above", x.mean(0), rows[0][0]);
        Edges.due("of 0, below", x.mean(1), rows[0][1]);
        x.pass(1);
        for (int many = 1; many <= 5; many++) {
            Edges.due("of " + many + ", above", x.mean(0), rows[many][0]);
            Edges.due("of " + many + ", below", x.mean(1), rows[many][1]);
            x.asker();
        }
        AuntsInTurn y = played("aunt 0 0 1", "weigh 0 5", "asker", "asker", "asker", "asker", "asker", "pass 1");
        Edges.due("of 25 by 5, above", y.mean(0), 5);
        Edges.due("of 25 by 5, below", y.mean(1), 1);
    }

    @Edge(of = "Terms 2", says = "MEAN: SHOCK of all ASKERS, together, by how many they are: a fraction in lowest terms (NO: there are none).")
    static void meanOfTheMostShock() {
        AuntsInTurn x = played("aunt 0 1 255", "text nerve 99;bold 7 p<9", "valley");
        for (int fact = 0; fact < 8; fact++) {
            x.weigh(fact, 9);
        }
        // of all FACTS, 72 each; of the last all but one, 63
        long[] above = {72, 72, 72, 72, 351};
        for (int i = 0; i < 5; i++) {
            x.asker();
            x.begin(i, i == 4 ? 1 : 0);
            x.pass(1);
            Edges.due("above the line of " + i, x.mean(0), above[i]);
            Edges.due("below the line of " + i, x.mean(1), i == 4 ? 5 : 1);
        }
    }

    private static final String PLAN = "PLAN told by hand: rows of what 0 a DAY goes (the other not looked at), 1 one of AUNTS is AWAY, 2 one is not, 3 one of ASKERS begins anew (PLACE 0, SHOCK 0, not BACK; HEARD stays); 8 at most.";

    @Edge(of = "Terms 2", says = PLAN)
    static void eightRowsOfThePlan() {
        AuntsInTurn x = played("aunt 0 0 1", "aunt 0 0 2", "aunt 0 0 4", "aunt 0 0 8", "aunt 0 0 16", "aunt 0 0 32", "asker");
        int[] others = {0, -1, 999, Integer.MIN_VALUE, Integer.MAX_VALUE};
        for (int i = 0; i < 5; i++) {
            Edges.due("row " + i, x.plan(0, others[i]), i + 1);
            Edges.due("not THROUGH by it", x.done(1), 0);
        }
        Edges.due("the sixth", x.plan(0, 0), 6);
        Edges.due("THROUGH by six DAYS", x.done(1), 1);
        Edges.due("the seventh", x.plan(0, 0), 7);
        Edges.due("the eighth", x.plan(3, 0), 8);
        Edges.due("not THROUGH by the eighth", x.done(1), 0);
        Edges.due("a ninth", x.plan(0, 0), Edges.FULL);
        Edges.due("rows", x.count(4), 8);
        Edges.due("not THROUGH still", x.done(1), 0);
    }

    private static void done(AuntsInTurn x, int back, int through) {
        Edges.due("DONE: BACK", x.done(0), back);
        Edges.due("DONE: THROUGH", x.done(1), through);
    }

    @Edge(of = "Terms 2", says = PLAN)
    static void oneBeginsAnewAndKeepsWhatItHeard() {
        AuntsInTurn x = played("aunt 0 0 1", "aunt 0 0 2", "asker", "text nerve 1", "valley", "pass 2");
        done(x, 1, 0);
        x.plan(3, 0);
        // not BACK any more
        done(x, 0, 0);
        Played.on(x, "plan 0 0", "plan 0 0");
        // HEARD stays, so that nothing is SAID, and SHOCK is 0
        done(x, 0, 1);
        Edges.due("BACK as it was", x.at(0, 3), 1);
        AuntsInTurn y = played("aunt 0 0 1", "aunt 0 0 6", "asker", "text nerve 1", "valley", "pass 1", "plan 3 0", "plan 0 0", "plan 0 0");
        // SHOCK from 0 on: 1 at the second, at NERVE
        done(y, 0, 1);
    }

    @Edge(of = "Terms 2", says = PLAN)
    static void oneOfAuntsIsAwayOrIsNot() {
        AuntsInTurn x = played("aunt 0 0 1", "aunt 0 0 2", "asker", "text nerve 1", "valley", "plan 1 1", "plan 0 0", "plan 0 0");
        done(x, 0, 1);
        x.plan(-1, 0);
        Played.on(x, "plan 0 0", "plan 0 0");
        done(x, 1, 0);
        Played.on(x, "plan -1 0", "plan 1 1", "plan 1 1", "plan 2 1", "plan 0 0", "plan 0 0");
        done(x, 1, 0);
        Played.on(x, "away 1 true", "plan -1 0", "plan 2 0", "plan 0 0", "plan 0 0");
        done(x, 0, 1);
        Played.on(x, "plan -1 0", "plan 2 1", "plan 2 1", "plan 0 0", "plan 0 0");
        done(x, 1, 0);
        Edges.due("AWAY as it was", x.told(2), 2);
    }

    /** The same number tells an AUNT by 1 and 2, an ASKER by 3, and nothing by 0. */
    @Edge(of = "Terms 2", says = PLAN)
    static void oneNumberIsAnAuntsOrAnAskers() {
        AuntsInTurn x = played("aunt 0 0 1", "aunt 0 0 2", "asker", "asker", "pass 2");
        done(x, 0, 2);
        // nobody begins anew by what is told of AUNTS and of DAYS
        for (String row : new String[] {"plan 1 0", "plan 2 1", "plan 1 1", "plan 2 0", "plan 0 0", "plan 0 1"}) {
            Played.on(x, row);
            done(x, 0, 2);
        }
        x.plan(3, 1);
        done(x, 0, 1);
        Played.on(x, "plan -1 0", "plan 3 0");
        done(x, 0, 1);
        Edges.due("AWAY as it was", x.told(2), 0);
    }

    @Edge(of = "Terms 2", says = "DONE: how many are BACK; how many are THROUGH.")
    static void doneByNoRowsIsAsNow() {
        done(new AuntsInTurn(), 0, 0);
        done(played("asker", "asker"), 0, 2);
        AuntsInTurn x = Scenes.some();
        x.plan(-1, 0);
        done(x, x.told(4), x.told(3));
        AuntsInTurn y = played("aunt 0 0 1", "asker", "asker", "asker", "asker", "asker", "text nerve 0", "valley", "begin 0 1", "plan 0 0");
        done(y, 4, 1);
    }

    @Edge(of = "Terms 2", says = "BOOK told by hand: ASKERS and FACTS; 8 at most.")
    static void eightRowsOfBook() {
        AuntsInTurn x = played("asker", "asker", "begin 1 255");
        for (int i = 1; i <= 8; i++) {
            Edges.due("row " + i, x.book(i % 2, i % 2 == 0 ? 0 : 255), i);
            Edges.due("all as booked", x.looked(), Edges.NOT_ANY);
        }
        Edges.due("a ninth", x.book(0, 9), Edges.FULL);
        Edges.due("rows", x.count(5), 8);
        Edges.due("all as booked still", x.looked(), Edges.NOT_ANY);
    }

    @Edge(of = "Terms 2", says = "LOOKED at: the place (from 0) of the first by which what it HEARD is otherwise now (-5: none).")
    static void lookedAtTheFirstAndAtTheEighth() {
        AuntsInTurn x = played("asker", "asker");
        Edges.due("no rows", x.looked(), Edges.NOT_ANY);
        for (int i = 0; i < 8; i++) {
            x.book(i == 0 || i == 7 ? 1 : 0, 0);
        }
        Edges.due("all as booked", x.looked(), Edges.NOT_ANY);
        x.begin(0, 1);
        Edges.due("the second is the first otherwise", x.looked(), 1);
        x.begin(1, 1);
        Edges.due("the first", x.looked(), 0);
        Played.on(x, "book -1 0", "book 0 1", "book 0 1", "book 0 1", "book 0 1", "book 0 1", "book 0 1", "book 0 1", "book 1 0");
        Edges.due("the eighth", x.looked(), 7);
        x.begin(1, 0);
        Edges.due("none", x.looked(), Edges.NOT_ANY);
    }

    private static final String ACTS = "ACTS of an AUNT with x (ints, wrapping): rings, asks, warns; i its number.";

    private static void act(int kind, int act, int x, int want) {
        AuntsInTurn made = played("aunt 0 0 0", "aunt 0 0 0", "aunt " + kind + " 4 0");
        Edges.due("act " + act + " of KIND " + kind + " with " + x, made.act(2, act, x), want);
    }

    /** Of number 2 and v 4; what is due is worked out by hand from the least and the greatest int. */
    @Edge(of = "Terms 2", says = ACTS)
    static void actsWrap() {
        int max = Integer.MAX_VALUE;
        int min = Integer.MIN_VALUE;
        act(0, 0, max, min + 1);
        act(0, 0, max - 2, max);
        act(0, 0, min, min + 2);
        act(0, 1, min, max - 1);
        act(0, 1, min + 2, min);
        act(0, 2, 1 << 30, max - 3);
        act(0, 2, max, -6);
        // rings of BLUNT: three times the greatest is the greatest less 2, three times the least is the least
        act(1, 0, max, max);
        act(1, 0, min, min + 2);
        act(1, 1, min, max - 1);
        // of MEEK: the least has no other side
        act(2, 1, min + 2, min);
        act(2, 1, max, min + 3);
        act(3, 2, 1 << 30, max - 4);
        // PIOUS: (min - 1) * 3 is max * 3, that is max - 2; rings max, asks max - 4, warns -10; and rings(2) 8
        act(4, 2, min, -2);
        act(5, 0, max, (min + 1) ^ 2);
        // i is 2: 3 + 2 is 5, without the 2 of it 7 and with the 2 that is there already 4
        act(5, 0, 3, 7);
        act(5, 0, 4, 4);
        act(6, 1, max, min + 1);
    }

    @Edge(of = "Terms 2", says = "THE TRACE: the numbers of the bodies that ran in the latest act(), as they began; the first 20 are kept.")
    static void theLongestTraceIsKeptWhole() {
        // no act of any KIND has more than seven bodies
        AuntsInTurn x = played("aunt 4 4 0", "act 0 2 5");
        int[] bodies = {41, 3, 2, 11, 1, 11, 1};
        for (int i = 0; i < 7; i++) {
            Edges.due("body " + i, x.trace(i), bodies[i]);
        }
        for (int i = 7; i <= 21; i++) {
            Edges.due("body " + i, x.trace(i), Edges.NONE);
        }
        for (int i = 0; i < 4; i++) {
            Played.on(x, "act 0 2 5");
            Edges.due("the latest act alone", x.count(7), 7);
            Edges.due("none of those ahead of it", x.trace(7), Edges.NONE);
        }
        x.act(0, 0, 5);
        Edges.due("a shorter one", x.trace(2), Edges.NONE);
    }

    @Edge(of = "Terms 2", says = "THE IMAGE: all that there is (but THE IMAGE and THE TRACE).")
    static void theImageIsWithoutItselfAndTheTrace() {
        AuntsInTurn x = played("aunt 0 0 1", "act 0 0 5", "image", "act 0 2 5", "undo");
        Edges.due("THE TRACE is not undone", x.count(7), 3);
        Edges.due("its first", x.trace(0), 3);
        Edges.due("undo again", x.undo(), 1);
        Played.on(x, "aunt 0 0 2", "image", "aunt 0 0 4");
        Edges.due("to the newer", x.undo(), 2);
        Edges.due("to the newer again", x.undo(), 2);
    }
}
