/** Boundary cases of the first part of the Terms: by what a TEST holds, what each KIND SAYS, how a DAY goes. */
public final class EdgesOfTerms1SaysTest {
    /** FACTS 1, 2, 4, 5 and 7. */
    private static final int FIVE = 182;

    public static void main(String[] args) throws IllegalAccessException {
        Edges.run(EdgesOfTerms1SaysTest.class);
    }

    private static AuntsInTurn played(String... calls) {
        return Edges.played(calls);
    }

    private static final String OF_AUNTS = "of one of AUNTS and what is HEARD p her number, k her KIND, v her v, "
        + "h how many FACTS are HEARD, l how many FACTS are LEFT, d the DAY modulo 10.";

    /** What the TEST's < = > tell where that which is looked at is n: of n - 1, n and n + 1. */
    private static void compares(AuntsInTurn x, int aunt, int heard, char subject, int n) {
        for (int than = Math.max(0, n - 1); than <= n + 1; than++) {
            compares(x, aunt, heard, subject, n, than);
        }
    }

    /** Each of < = > has a bold of its own, so that MOUTH tells by which of them it holds. */
    private static void compares(AuntsInTurn x, int aunt, int heard, char subject, int n, int than) {
        String text = "bold 10 " + subject + "<" + than + ";bold 20 " + subject + "=" + than + ";bold 40 " + subject + ">" + than;
        Edges.due("valley of " + text, Check.valley(x, text) >= 0 ? 1 : 0, 1);
        int want = n < than ? 11 : n == than ? 21 : 41;
        Edges.due(text + " where it is " + n, x.says(aunt, heard, 1), want);
    }

    @Edge(of = "Terms 1", says = "a TEST: p or k or v or h or l or d, one of < = >, a number likewise")
    static void numbersOfATestFrom0To99() {
        int[] are = {1, 2, 3, 4, 4, 6};
        for (int i = 0; i < are.length; i++) {
            for (int than : new int[] {0, 1, 9, 10, 11, 90, 98, 99}) {
                AuntsInTurn x = played("aunt 0 0 0", "aunt 2 3 255", "pass 6");
                compares(x, 1, 15, "pkvhld".charAt(i), are[i], than);
            }
        }
    }

    private static AuntsInTurn seven() {
        return played("aunt 0 0 255", "aunt 1 1 127", "aunt 2 9 1", "aunt 3 8 0", "aunt 6 5 255", "aunt 5 2 3");
    }

    @Edge(of = "Terms 1", says = OF_AUNTS)
    static void pIsHerNumber() {
        for (int aunt = 0; aunt < 6; aunt++) {
            compares(seven(), aunt, 0, 'p', aunt);
        }
    }

    @Edge(of = "Terms 1", says = OF_AUNTS)
    static void kIsHerKind() {
        int[] kinds = {0, 1, 2, 3, 6, 5};
        for (int aunt = 0; aunt < 6; aunt++) {
            compares(seven(), aunt, 0, 'k', kinds[aunt]);
        }
        compares(played("aunt 4 9 0"), 0, 0, 'k', 4);
    }

    @Edge(of = "Terms 1", says = OF_AUNTS)
    static void vIsHerV() {
        int[] vs = {0, 1, 9, 8, 5, 2};
        for (int aunt = 0; aunt < 6; aunt++) {
            compares(seven(), aunt, 0, 'v', vs[aunt]);
        }
    }

    @Edge(of = "Terms 1", says = OF_AUNTS)
    static void hIsHowManyAreHeard() {
        int heard = 0;
        for (int many = 0; many <= 8; many++) {
            compares(seven(), 3, heard, 'h', many);
            heard = heard * 2 + 1;
        }
    }

    @Edge(of = "Terms 1", says = OF_AUNTS)
    static void lIsHowManyAreLeft() {
        compares(seven(), 0, 0, 'l', 8);
        compares(seven(), 0, 128, 'l', 7);
        compares(seven(), 0, 255, 'l', 0);
        compares(seven(), 1, 128, 'l', 7);
        compares(seven(), 2, 0, 'l', 1);
        compares(seven(), 2, 1, 'l', 0);
        compares(seven(), 3, 0, 'l', 0);
        // FACT 0, which a BAKER SAYS whether she KNOWS it or not, is not LEFT where she does not
        compares(played("aunt 5 9 6"), 0, 0, 'l', 2);
    }

    @Edge(of = "Terms 1", says = OF_AUNTS)
    static void dIsTheDayModulo10() {
        int[] days = {0, 1, 9, 10, 11, 19, 20, 60};
        for (int day : days) {
            compares(played("aunt 0 0 255", "pass " + day), 0, 0, 'd', day % 10);
        }
        compares(late(), 0, 0, 'd', 9);
    }

    /** One AUNT of each FACT on the last DAY that there is, 9999. */
    private static AuntsInTurn late() {
        AuntsInTurn x = played("aunt 0 0 255");
        for (int i = 0; i < 166; i++) {
            x.pass(60);
        }
        x.pass(39);
        return x;
    }

    /** Of parts that hold (v=1) and do not (v=2), in each way: MOUTH is 6 where the whole holds. */
    @Edge(of = "Terms 1", says = "E: T, or T|E. T: F, or F&T. F: !F, (E), or a TEST")
    static void jointsHoldByTheirParts() {
        String[] hold = {"1", "!0", "!!1", "1&1", "1|1", "1|0", "0|1", "1&1&1", "0|0|1", "1|0|0", "0&0|1", "1|0&0", "1|1&0", "0&1|1",
            "!0&1", "!0|0", "!1|1", "!(0)", "!(1&0)", "!(0|0)", "(1|1)&1", "1&(0|1)", "(0|1)&(1|0)", "(((((1)))))", "!!!!1", "!(!(!0))",
            "!(1&!(0|!0))|1", "0|(1&(0|(1&(0|(1)))))"};
        String[] holdNot = {"0", "!1", "!!0", "1&0", "0&1", "0&0", "0|0", "1&1&0", "0&1&1", "0|0|0", "1&0|0", "0|1&0", "(1|1)&0",
            "0&(1|1)", "!1&0", "!1|0", "!0&0", "!(1)", "!(1|0)", "!(1&1)", "(((((0)))))", "!!!!!1", "!(!(!1))", "1&(0|(1&(0|(1&(0)))))"};
        for (String parts : hold) {
            mouthBy(parts, 6);
        }
        for (String parts : holdNot) {
            mouthBy(parts, 1);
        }
    }

    private static void mouthBy(String parts, int mouth) {
        String text = "bold 5 " + parts.replace("1", "v=1").replace("0", "v=2");
        AuntsInTurn x = played("aunt 0 1 255", "text " + text, "valley");
        Edges.due("VALLEYS by " + text, x.count(2), 1);
        Edges.due("MOUTH by " + text, x.says(0, 0, 1), mouth);
    }

    @Edge(of = "Terms 1", says = "CLAUSES, 1 to 10")
    static void eachOfTenClausesHoldsByItsOwnParts() {
        AuntsInTurn x = played("aunt 0 1 255", "text bold 9 v=1;shy 1 v=1;shy 1 v=2;shy 1 v=1;shy 1 v=2;shy 1 v=2;shy 1 v=1;shy 1 v=2;"
            + "shy 1 v=0;shy 1 v>0", "valley");
        Edges.due("VALLEYS", x.count(2), 1);
        Edges.due("MOUTH", x.says(0, 0, 1), 6);
        Played.on(x, "text bold 1 !v=1|v=1&!v=2;bold 4 !(v=2|v=1)", "valley");
        Edges.due("MOUTH by the first of two", x.says(0, 0, 1), 2);
    }

    @Edge(of = "Terms 1", says = "LEFT of an AUNT by what is HEARD: the FACTS she KNOWS that are not HEARD.")
    static void leftOfAllAndOfNothing() {
        AuntsInTurn x = played("aunt 0 1 255", "aunt 0 1 0", "aunt 0 1 129");
        int[][] rows = {{0, 0, 255}, {0, 255, 0}, {0, 254, 1}, {0, 127, 128}, {1, 0, 0}, {1, 255, 0}, {2, 0, 129},
            {2, 126, 129}, {2, 1, 128}, {2, 128, 1}, {2, 129, 0}};
        for (int[] row : rows) {
            Edges.due("LEFT of " + row[0] + " by " + row[1], x.says(row[0], row[1], 0), row[2]);
        }
    }

    @Edge(of = "Terms 1", says = "MOUTH of her by that: 1, and the n of all bold whose E holds, less those of all shy, together (0 at least).")
    static void mouthIs0AtLeastAndTogether() {
        String[] texts = {"nerve 1", "bold 0 p=0", "shy 0 p=0", "shy 1 p=0", "shy 2 p=0", "shy 99 p=0", "bold 1 p=0;shy 1 p=0",
            "shy 3 p=0;bold 2 p=0", "shy 3 p=0;bold 3 p=0", "shy 3 p=0;bold 1 p=0;bold 2 p=0", "bold 2 p=0;shy 4 p=0;bold 1 p=0",
            "bold 99 p=0", "bold 99 p=0;" .repeat(7) + "bold 99 p=0", "shy 99 p=0;".repeat(8) + "bold 9 p=0", "bold 5 p=1",
            "shy 5 p=1"};
        int[] mouths = {1, 1, 1, 0, 0, 0, 1, 0, 1, 1, 0, 100, 793, 0, 1, 1};
        for (int i = 0; i < texts.length; i++) {
            AuntsInTurn x = played("aunt 0 1 255", "text " + texts[i], "valley");
            Edges.due("MOUTH by " + texts[i], x.says(0, 0, 1), mouths[i]);
        }
    }

    @Edge(of = "Terms 1", says = "MOUTH of her by that: 1, and the n of all bold whose E holds, less those of all shy, together (0 at least).")
    static void mouthByClausesOfSeveralTests() {
        String text = "bold 3 p=0&v=1|h>7;shy 1 !(k=0&l<9)|h=2;bold 5 h=1&l=3;bold 2 v=1";
        AuntsInTurn x = played("aunt 0 1 15", "aunt 0 2 15", "text " + text, "valley");
        // by what is HEARD, MOUTH of the first (v 1) and of the second (v 2), and what they SAY by that
        int[][] rows = {{0, 6, 1, 15, 1}, {1, 11, 6, 14, 14}, {16, 6, 1, 15, 1}, {3, 5, 0, 12, 0}, {17, 5, 0, 14, 0}, {7, 6, 1, 8, 8},
            {240, 6, 1, 15, 1}, {255, 6, 4, 0, 0}};
        for (int[] row : rows) {
            for (int i = 0; i < 2; i++) {
                Edges.due("MOUTH of " + i + " where " + row[0] + " is HEARD", x.says(i, row[0], 1), row[1 + i]);
                Edges.due("SAYS of " + i + " where " + row[0] + " is HEARD", x.says(i, row[0], 2), row[3 + i]);
            }
        }
    }

    /** An aunt of the KIND who knows FACTS 1, 2, 4, 5 and 7 and tells so many of them at once. */
    private static AuntsInTurn one(int kind, int v, int mouth) {
        String clause = mouth == 0 ? "shy 1 p=0" : "bold " + (mouth - 1) + " p=0";
        return played("aunt " + kind + " " + v + " " + FIVE, "text nerve 99;" + clause, "valley");
    }

    /** What she SAYS by nothing HEARD with MOUTH 0 to 6 and 100. */
    private static void byMouth(int kind, int v, int[] weights, int... says) {
        int[] mouths = {0, 1, 2, 3, 4, 5, 6, 100};
        for (int i = 0; i < mouths.length; i++) {
            AuntsInTurn x = one(kind, v, mouths[i]);
            for (int fact = 0; fact < weights.length; fact++) {
                x.weigh(fact, weights[fact]);
            }
            Edges.due("KIND " + kind + " by MOUTH " + mouths[i], x.says(0, 0, 2), says[i]);
        }
    }

    @Edge(of = "Terms 1", says = "AUNT: of LEFT the least, as many as MOUTH tells (all, if there are fewer).")
    static void auntSaysAllIfThereAreFewer() {
        byMouth(0, 0, new int[0], 0, 2, 6, 22, 54, 182, 182, 182);
        AuntsInTurn x = one(0, 0, 2);
        Edges.due("two LEFT", x.says(0, 22, 2), 160);
        Edges.due("one LEFT", x.says(0, 54, 2), 128);
        Edges.due("none LEFT", x.says(0, 182, 2), 0);
        x.learn(0, 129);
        Edges.due("the least and the greatest that there are", x.says(0, 0, 2), 129);
    }

    @Edge(of = "Terms 1", says = "BLUNT: of LEFT the heaviest by WEIGHT (of several the least), as many.")
    static void bluntSaysOfSeveralTheLeast() {
        byMouth(1, 0, new int[0], 0, 2, 6, 22, 54, 182, 182, 182);
        byMouth(1, 0, new int[] {9, 0, 0, 9, 0, 0, 9, 0}, 0, 2, 6, 22, 54, 182, 182, 182);
        byMouth(1, 0, new int[] {9, 1, 1, 9, 1, 9, 9, 9}, 0, 32, 160, 162, 166, 182, 182, 182);
        byMouth(1, 0, new int[] {0, 0, 8, 0, 9, 8, 0, 1}, 0, 16, 20, 52, 180, 182, 182, 182);
        AuntsInTurn x = one(1, 0, 1);
        x.weigh(7, 9);
        Edges.due("the heaviest is LEFT", x.says(0, 0, 2), 128);
        Edges.due("the heaviest is HEARD", x.says(0, 128, 2), 2);
        Edges.due("none LEFT", x.says(0, 182, 2), 0);
        x.learn(0, 129);
        x.weigh(7, 1);
        Edges.due("of FACTS 0 and 7 alike the least", x.says(0, 0, 2), 1);
    }

    @Edge(of = "Terms 1", says = "MEEK: as AUNT; none, if v FACTS or more are HEARD.")
    static void meekSaysNothingFromVHeardOn() {
        byMouth(2, 9, new int[0], 0, 2, 6, 22, 54, 182, 182, 182);
        int[] sets = {0, 8, 9, 73, 75, 79, 95, 127, 255};
        for (int v = 0; v <= 9; v++) {
            AuntsInTurn x = played("aunt 2 " + v + " 255");
            for (int many = 0; many <= 8; many++) {
                int least = Integer.lowestOneBit(~sets[many]) & 255;
                Edges.due("v " + v + ", " + many + " HEARD", x.says(0, sets[many], 2), many < v ? least : 0);
            }
        }
    }

    @Edge(of = "Terms 1", says = "SLY: of LEFT the greatest, as many.")
    static void slySaysTheGreatest() {
        byMouth(3, 0, new int[0], 0, 128, 160, 176, 180, 182, 182, 182);
        AuntsInTurn x = one(3, 0, 1);
        Edges.due("the last LEFT", x.says(0, 180, 2), 2);
        Edges.due("none LEFT", x.says(0, 182, 2), 0);
        x.learn(0, 1);
        Edges.due("FACT 0", x.says(0, 0, 2), 1);
    }

    @Edge(of = "Terms 1", says = "PIOUS: what she would say as BLUNT, without FACT v modulo 8 (none comes in its place).")
    static void piousLeavesOutVModulo8() {
        int[] without = {254, 253, 251, 247, 239, 223, 191, 127, 254, 253};
        for (int v = 0; v <= 9; v++) {
            AuntsInTurn x = played("aunt 4 " + v + " 255", "text bold 7 p=0", "valley");
            Edges.due("all FACTS, v " + v, x.says(0, 0, 2), without[v]);
            Edges.due("that FACT alone, v " + v, x.says(0, without[v], 2), 0);
        }
        byMouth(4, 0, new int[0], 0, 2, 6, 22, 54, 182, 182, 182);
        // FACT 1, the first that she would say as BLUNT: none comes in its place
        byMouth(4, 1, new int[0], 0, 0, 4, 20, 52, 180, 180, 180);
        byMouth(4, 9, new int[0], 0, 0, 4, 20, 52, 180, 180, 180);
        byMouth(4, 7, new int[] {1, 1, 1, 1, 1, 1, 1, 2}, 0, 0, 2, 6, 22, 54, 54, 54);
    }

    @Edge(of = "Terms 1", says = "BAKER: as MEEK, and FACT 0, if it is not HEARD (whether she KNOWS it or not).")
    static void bakerSaysFact0Besides() {
        byMouth(5, 9, new int[0], 1, 3, 7, 23, 55, 183, 183, 183);
        byMouth(5, 0, new int[0], 1, 1, 1, 1, 1, 1, 1, 1);
        AuntsInTurn x = played("aunt 5 2 6");
        Edges.due("0 HEARD", x.says(0, 0, 2), 3);
        Edges.due("1 HEARD, not 0", x.says(0, 8, 2), 3);
        Edges.due("1 HEARD, 0", x.says(0, 1, 2), 2);
        Edges.due("v HEARD, not 0", x.says(0, 24, 2), 1);
        Edges.due("v HEARD, 0 too", x.says(0, 9, 2), 0);
        x.learn(0, 7);
        Edges.due("0 is one of as many, if she KNOWS it", x.says(0, 0, 2), 1);
        x.learn(0, 0);
        Edges.due("KNOWS nothing", x.says(0, 0, 2), 1);
        Edges.due("KNOWS nothing, all but 0 HEARD", x.says(0, 254, 2), 1);
        Edges.due("KNOWS nothing, all HEARD", x.says(0, 255, 2), 0);
    }

    private static final String TOLD = "TOLD: as SLY, and those FACTS 0 .. 3 that her ROW at DAY modulo 4 tells as bits, as far as they are LEFT.";

    @Edge(of = "Terms 1", says = TOLD)
    static void toldSaysByTheBitsOfHerRow() {
        for (int n = 0; n <= 9; n++) {
            AuntsInTurn x = played("aunt 6 0 255", "row 0 0 " + n, "text shy 1 p=0", "valley");
            Edges.due("ROW " + n + ", MOUTH 0", x.says(0, 0, 2), n);
            Edges.due("ROW " + n + ", 0 and 3 HEARD", x.says(0, 9, 2), n & 6);
            x.learn(0, 248);
            Edges.due("ROW " + n + ", KNOWS of them 3 alone", x.says(0, 0, 2), n & 8);
            x.learn(0, 240);
            Edges.due("ROW " + n + ", KNOWS none of them", x.says(0, 0, 2), 0);
        }
        byMouth(6, 0, new int[0], 0, 128, 160, 176, 180, 182, 182, 182);
        AuntsInTurn y = played("aunt 6 0 7", "row 0 0 4");
        Edges.due("the greatest is told by her ROW, too", y.says(0, 0, 2), 4);
    }

    @Edge(of = "Terms 1", says = TOLD)
    static void toldSaysByTheDayModulo4() {
        AuntsInTurn x = played("aunt 6 0 15", "row 0 0 1", "row 0 1 2", "row 0 2 4", "row 0 3 8", "text shy 1 p=0", "valley");
        for (int day = 0; day <= 8; day++) {
            Edges.due("DAY " + day, x.says(0, 0, 2), 1 << day % 4);
            x.pass(1);
        }
        AuntsInTurn y = late();
        Played.on(y, "aunt 6 0 15", "row 1 0 1", "row 1 1 2", "row 1 2 4", "row 1 3 8", "text shy 1 p=1", "valley");
        Edges.due("DAY 9999", y.says(1, 0, 2), 8);
    }

    private static void asker(AuntsInTurn x, int asker, int heard, int shock, int place, int back) {
        Edges.due("HEARD by " + asker, x.at(asker, 0), heard);
        Edges.due("SHOCK of " + asker, x.at(asker, 1), shock);
        Edges.due("PLACE of " + asker, x.at(asker, 2), place);
        Edges.due("BACK " + asker, x.at(asker, 3), back);
    }

    @Edge(of = "Terms 1", says = "A DAY goes, by how all is ahead of it: each of ASKERS that is not BACK and whose PLACE is an AUNT's comes to her")
    static void oneWhoseBackOrPlaceIsNoAuntsStays() {
        AuntsInTurn x = played("asker", "pass 1");
        Edges.due("DAY without AUNTS", x.told(0), 1);
        asker(x, 0, 0, 0, 0, 0);
        Played.on(x, "aunt 0 0 1", "aunt 0 0 2", "pass 1");
        asker(x, 0, 1, 1, 1, 0);
        x.pass(1);
        asker(x, 0, 3, 2, 2, 0);
        x.pass(1);
        asker(x, 0, 3, 2, 2, 0);
        Edges.due("DAY with nobody on the way", x.told(0), 4);
        AuntsInTurn y = played("text nerve 0", "valley", "aunt 0 0 1", "aunt 0 0 2", "asker", "asker", "begin 1 1", "pass 1");
        asker(y, 0, 1, 1, 0, 1);
        asker(y, 1, 1, 0, 1, 0);
        Played.on(y, "text nerve 99", "valley", "learn 0 255", "pass 3");
        asker(y, 0, 1, 1, 0, 1);
        asker(y, 1, 3, 1, 2, 0);
    }

    @Edge(of = "Terms 1", says = "A DAY goes, by how all is ahead of it: each of ASKERS that is not BACK and whose PLACE is an AUNT's comes to her")
    static void allGoByHowItIsAheadOfTheDay() {
        // by d and the ROW of the DAY that goes, each of five who come to the same AUNT on the same DAY
        AuntsInTurn x = played("aunt 6 0 3", "row 0 0 1", "row 0 1 2", "text bold 1 d=1;shy 1 d=0", "valley");
        for (int i = 0; i < 5; i++) {
            x.asker();
        }
        x.pass(1);
        for (int i = 0; i < 5; i++) {
            asker(x, i, 1, 1, 1, 0);
        }
        Edges.due("DAY", x.told(0), 1);
    }

    @Edge(of = "Terms 1", says = "if she is AWAY, PLACE is 1 more; else what she SAYS is HEARD, too")
    static void pastOneWhoIsAwayNothingIsHeard() {
        AuntsInTurn x = played("aunt 0 0 3", "aunt 0 0 4", "asker", "away 0 true", "pass 1");
        asker(x, 0, 0, 0, 1, 0);
        x.pass(1);
        asker(x, 0, 4, 1, 2, 0);
        // nobody is BACK at one who is AWAY, though SHOCK is above NERVE
        AuntsInTurn y = played("aunt 0 0 3", "aunt 0 0 4", "aunt 0 0 0", "asker", "pass 1", "away 1 true", "text nerve 0", "valley", "pass 1");
        asker(y, 0, 1, 1, 2, 0);
        y.pass(1);
        asker(y, 0, 1, 1, 2, 1);
    }

    @Edge(of = "Terms 1", says = "SHOCK is the WEIGHTS of that, together, more (9999 at most); if SHOCK is above NERVE then, it is BACK; else PLACE is 1 more.")
    static void shockAtNerveIsNotAboveIt() {
        for (int nerve = 4; nerve <= 6; nerve++) {
            AuntsInTurn x = played("aunt 0 0 1", "aunt 0 0 6", "weigh 0 2", "weigh 1 3", "weigh 2 0", "asker",
                "text nerve " + nerve + ";bold 1 p=1", "valley", "pass 2");
            asker(x, 0, 7, 5, nerve < 5 ? 1 : 2, nerve < 5 ? 1 : 0);
        }
        AuntsInTurn y = played("aunt 0 0 1", "weigh 0 0", "asker", "text nerve 0", "valley", "pass 1");
        asker(y, 0, 1, 0, 1, 0);
        AuntsInTurn z = played("aunt 0 0 1", "weigh 0 1", "asker", "text nerve 0", "valley", "pass 1");
        asker(z, 0, 1, 1, 0, 1);
        AuntsInTurn w = played("aunt 0 0 1", "aunt 0 0 0", "weigh 0 3", "asker", "pass 1", "text nerve 2", "valley", "pass 1");
        // above the NERVE that is now, though she SAYS nothing
        asker(w, 0, 1, 3, 1, 1);
    }

    /** No SHOCK comes near 9999; the most that there can be stands whole, at NERVE 71 and 72, and 12. */
    @Edge(of = "Terms 1", says = "SHOCK is the WEIGHTS of that, together, more (9999 at most); if SHOCK is above NERVE then, it is BACK; else PLACE is 1 more.")
    static void theMostShock() {
        for (String nerve : new String[] {"nerve 71;", "nerve 72;", ""}) {
            AuntsInTurn x = played("aunt 0 0 255", "asker", "text " + nerve + "bold 7 p=0", "valley");
            for (int fact = 0; fact < 8; fact++) {
                x.weigh(fact, 9);
            }
            x.pass(1);
            boolean holds = nerve.equals("nerve 72;");
            asker(x, 0, 255, 72, holds ? 1 : 0, holds ? 0 : 1);
        }
    }

    @Edge(of = "Terms 1", says = "DAY is 1 more.")
    static void dayIsOneMoreEachDay() {
        AuntsInTurn x = played("aunt 0 0 1", "asker", "asker");
        for (int day = 1; day <= 12; day++) {
            x.pass(1);
            Edges.due("DAY", x.told(0), day);
        }
    }

    @Edge(of = "Terms 1", says = "THROUGH is one whose PLACE is behind all AUNTS that there are.")
    static void throughIsBehindTheLast() {
        AuntsInTurn x = played("asker");
        Edges.due("where there are no AUNTS", x.told(3), 1);
        Played.on(x, "aunt 0 0 1", "aunt 0 0 2");
        Edges.due("at the first of two", x.told(3), 0);
        x.pass(1);
        Edges.due("at the last", x.told(3), 0);
        x.pass(1);
        Edges.due("behind the last", x.told(3), 1);
        x.aunt(0, 0, 4);
        Edges.due("where one more came", x.told(3), 0);
        Played.on(x, "away 2 true", "pass 1");
        Edges.due("behind one who is AWAY", x.told(3), 1);
        Played.on(x, "text nerve 0", "valley", "aunt 0 0 8", "pass 1");
        Edges.due("BACK at the last is not THROUGH", x.told(3), 0);
        Edges.due("BACK", x.told(4), 1);
    }
}
