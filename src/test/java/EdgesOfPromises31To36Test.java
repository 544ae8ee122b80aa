/** Boundary cases of promises 31 to 36: ACTS, THE TRACE, KINDS, THE IMAGE, what is counted. */
public final class EdgesOfPromises31To36Test {
    private static final int MIN = Integer.MIN_VALUE, MAX = Integer.MAX_VALUE;

    public static void main(String[] args) throws IllegalAccessException {
        Edges.run(EdgesOfPromises31To36Test.class);
    }

    private static AuntsInTurn played(String... calls) {
        return Edges.played(calls);
    }

    private static final String ACT = "An ACT (0 rings, 1 asks, 2 warns) of a AUNT with x. 0, and no TRACE then: no such AUNT, act.";

    @Edge(of = "Promise 31: act", says = ACT)
    static void actOfNoSuchAuntOrActIs0AndNoTrace() {
        int[][] calls = {{-1, 0}, {4, 0}, {0, -1}, {0, 3}, {4, 3}, {-1, -1}, {MIN, 0}, {MAX, 2}, {3, MIN}, {3, MAX}, {6, 1}};
        for (int[] call : calls) {
            AuntsInTurn x = Scenes.some();
            Edges.due("a TRACE is there", x.trace(0), 31);
            Edges.due("act(" + call[0] + ", " + call[1] + ", 5)", x.act(call[0], call[1], 5), 0);
            for (int i = 0; i < 8; i++) {
                Edges.due("no TRACE then " + i, x.trace(i), Edges.NONE);
            }
            Edges.due("no bodies then", x.count(7), 0);
            AuntsInTurn twin = Scenes.some();
            twin.act(-1, 0, 0);
            Edges.same("nothing else, but ", x, twin);
        }
        Edges.due("act(0, 0, 5) without AUNTS", new AuntsInTurn().act(0, 0, 5), 0);
    }

    @Edge(of = "Promise 31: act", says = ACT)
    static void actOfEachAuntAndActThatThereAre() {
        for (int aunt = 0; aunt < 6; aunt++) {
            for (int act = 0; act <= 2; act++) {
                AuntsInTurn x = Scenes.full();
                x.act(aunt, act, 5);
                Edges.due("act(" + aunt + ", " + act + ", 5) has bodies", x.count(7) > act ? 1 : 0, 1);
            }
        }
        AuntsInTurn x = played("aunt 0 3 0", "aunt 0 3 0");
        Edges.due("rings", x.act(1, 0, 5), 6);
        Edges.due("asks", x.act(1, 1, 5), 3);
        Edges.due("warns", x.act(1, 2, 5), 6);
        Edges.due("of the first", x.act(0, 0, 5), 5);
        // what an ACT answers may be 0 with a TRACE, too
        Edges.due("rings that are 0", x.act(1, 0, -1), 0);
        Edges.due("their TRACE", x.trace(0), 1);
    }

    @Edge(of = "Promise 32: trace", says = "THE TRACE's i-th body. NONE.")
    static void traceOfEachBodyThatRan() {
        int[][] lengths = {{0, 0, 1}, {0, 1, 2}, {0, 2, 3}, {1, 0, 2}, {1, 1, 3}, {1, 2, 4}, {2, 0, 1}, {2, 1, 3}, {2, 2, 4}, {3, 0, 1},
            {3, 1, 2}, {3, 2, 4}, {4, 0, 2}, {4, 1, 3}, {4, 2, 7}, {5, 0, 2}, {5, 1, 4}, {5, 2, 5}, {6, 0, 1}, {6, 1, 3}, {6, 2, 5}};
        for (int[] row : lengths) {
            AuntsInTurn x = played("aunt " + row[0] + " 4 0", "act 0 " + row[1] + " 5");
            String call = "of act " + row[1] + " of KIND " + row[0];
            Edges.due("bodies " + call, x.count(7), row[2]);
            Edges.due("ahead of the first " + call, x.trace(-1), Edges.NONE);
            for (int i = 0; i < row[2]; i++) {
                Edges.due("is one " + i + " " + call, x.trace(i) >= 1 && x.trace(i) <= 61 ? 1 : 0, 1);
            }
            Edges.due("the last " + call, x.trace(row[2] - 1), 1);
            for (int i : new int[] {row[2], row[2] + 1, 19, 20, 21, MAX, MIN}) {
                Edges.due(i + " " + call, x.trace(i), Edges.NONE);
            }
        }
        Edges.due("ahead of any act", new AuntsInTurn().trace(0), Edges.NONE);
    }

    @Edge(of = "Promise 32: trace", says = "THE TRACE's i-th body. NONE.")
    static void traceOfTheBodiesAsTheyBegan() {
        int[][] rows = {{0, 2, 3, 2, 1}, {1, 2, 3, 2, 11, 1}, {2, 2, 3, 21, 2, 1}, {3, 2, 31, 3, 2, 1}, {4, 2, 41, 3, 2, 11, 1, 11, 1},
            {5, 2, 3, 21, 2, 51, 1}, {6, 2, 31, 3, 61, 2, 1}};
        for (int[] row : rows) {
            AuntsInTurn x = played("aunt " + row[0] + " 4 0", "act 0 " + row[1] + " 5");
            for (int i = 2; i < row.length; i++) {
                Edges.due("body " + (i - 2) + " of KIND " + row[0], x.trace(i - 2), row[i]);
            }
            Edges.due("behind the last of KIND " + row[0], x.trace(row.length - 2), Edges.NONE);
        }
    }

    @Edge(of = "Promise 32: trace", says = "THE TRACE's i-th body. NONE.")
    static void traceThatThereIsNotChangesNothing() {
        Edges.range(Edges.NONE, 0, 4, "trace(n)", (x, n) -> x.trace(n));
        Edges.due("no more than five ran", Scenes.some().count(7), 5);
    }

    private static final String AS = "A AUNT taken for a KIND k (0 .. 6), or one under that: its v. NONE: aunt, k; -6: it is of another KIND.";

    @Edge(of = "Promise 33: as", says = AS)
    static void asOfAuntsAndKindsThatThereAre() {
        Edges.range(Edges.NONE, 0, 3, "as(n, 0)", (x, n) -> x.as(n, 0));
        Edges.range(Edges.NONE, 0, 5, Scenes::full, "as(n, 6)", (x, n) -> x.as(n, 6));
        Edges.range(Edges.NONE, 0, 6, "as(0, n)", (x, n) -> x.as(0, n));
        Edges.range(Edges.NONE, 0, 6, Scenes::full, "as(5, n)", (x, n) -> x.as(5, n));
        Edges.refused(Edges.NONE, AuntsInTurn::new, "as(0, 0) without AUNTS", x -> x.as(0, 0));
        Edges.refused(Edges.NONE, "as(4, 7)", x -> x.as(4, 7));
    }

    @Edge(of = "Promise 33: as", says = AS)
    static void asAKindOrOneUnderItAndNoOther() {
        // by KIND, those that it may be taken for
        String[] takenFor = {"0", "01", "02", "03", "014", "025", "036"};
        for (int kind = 0; kind <= 6; kind++) {
            for (int v : new int[] {0, 9}) {
                AuntsInTurn x = played("aunt " + kind + " " + v + " 0");
                for (int k = 0; k <= 6; k++) {
                    boolean is = takenFor[kind].indexOf('0' + k) >= 0;
                    Edges.due("KIND " + kind + " as " + k, x.as(0, k), is ? v : Edges.OTHER_KIND);
                }
            }
        }
    }

    @Edge(of = "Promise 34: image", says = "THE IMAGE is taken: how many AUNTS there are.")
    static void imageOfNobodyToSix() {
        AuntsInTurn x = new AuntsInTurn();
        for (int many = 0; many <= 6; many++) {
            Edges.due("image of " + many, x.image(), many);
            Edges.due("image again", x.image(), many);
            x.aunt(6, 1, 1);
            Edges.due("undo to " + many, x.undo(), many);
            Edges.due("there are", x.count(0), many);
            x.aunt(6, 1, 1);
        }
    }

    @Edge(of = "Promise 34: image", says = "THE IMAGE is taken: how many AUNTS there are.")
    static void takingAnImageChangesNothingElse() {
        AuntsInTurn x = Scenes.some();
        x.image();
        AuntsInTurn twin = Scenes.some();
        for (int what = 0; what <= 7; what++) {
            Edges.due("count " + what, x.count(what), twin.count(what));
        }
        Edges.due("THE TRACE", x.trace(4), twin.trace(4));
        Edges.due("undo", x.undo(), 4);
        Edges.due("KNOWS as it was then", x.of(2, 2), 87);
        for (int what = 0; what <= 7; what++) {
            Edges.due("count then " + what, x.count(what), twin.count(what));
        }
    }

    private static final String UNDO = "All is as THE IMAGE: how many AUNTS. STATE: there is none.";

    @Edge(of = "Promise 35: undo", says = UNDO)
    static void undoWithoutAnImage() {
        Edges.refused(Edges.STATE, AuntsInTurn::new, "undo() of a new object", x -> x.undo());
        Edges.refused(Edges.STATE, Scenes::told, "undo() where none was taken", x -> x.undo());
        AuntsInTurn x = Scenes.told();
        Edges.due("undo", x.undo(), Edges.STATE);
        Edges.due("image", x.image(), 1);
        Edges.due("undo then", x.undo(), 1);
    }

    @Edge(of = "Promise 35: undo", says = UNDO)
    static void undoOfAllThatWasFullToNothing() {
        AuntsInTurn x = new AuntsInTurn();
        x.image();
        Played.on(x, Scenes.FULL[0], "asker", "weigh 0 9", "away 0 true", "text nerve 9", "valley", "pass 60", "say 0 0", "plan 0 0",
            "book 0 0", "text nerve", "act 0 0 5");
        Edges.due("undo", x.undo(), 0);
        for (int what = 0; what <= 6; what++) {
            Edges.due("count " + what, x.count(what), 0);
        }
        Edges.due("DAY", x.told(0), 0);
        Edges.due("NERVE", x.told(1), 12);
        Edges.due("AWAY", x.told(2), 0);
        Edges.due("WEIGHT", x.told(10), 1);
        Edges.due("THE TRACE stays", x.trace(0), 11);
        Edges.due("an AUNT from 0 on, not AWAY", x.aunt(0, 0, 0) + x.of(0, 3), 0);
        Edges.due("an ASKER from 0 on, with nothing HEARD", x.asker() + x.at(0, 0), 0);
        Edges.due("the tape from its first sign on", x.feed('n'), 1);
        Edges.due("undo again", x.undo(), 0);
    }

    @Edge(of = "Promise 35: undo", says = UNDO)
    static void undoFromNothingToAllThatWasFull() {
        AuntsInTurn x = Scenes.full();
        Edges.due("image", x.image(), 6);
        for (int i = 0; i < 6; i++) {
            x.learn(i, 0);
            x.away(i, i % 2 == 0);
        }
        Played.on(x, "row 1 3 0", "weigh 5 0", "begin 0 255", "begin 4 255", "say -1 0", "plan -1 0", "book -1 0", "text x", "pass 9");
        Edges.due("undo", x.undo(), 6);
        AuntsInTurn twin = Scenes.full();
        twin.image();
        Edges.same("after undo", x, twin);
        AuntsInTurn y = Scenes.full();
        y.image();
        Edges.due("a seventh AUNT after undo", y.undo() + y.aunt(0, 0, 0), 6 + Edges.FULL);
        Edges.due("a sixth ASKER", y.asker(), Edges.FULL);
        Edges.due("a sixth VALLEY", y.valley(), Edges.FULL);
        Edges.due("a sixth row of SAID", y.say(0, 0), Edges.FULL);
        Edges.due("a ninth row of the PLAN", y.plan(0, 0), Edges.FULL);
        Edges.due("a ninth row of BOOK", y.book(0, 0), Edges.FULL);
    }

    @Edge(of = "Promise 35: undo", says = UNDO)
    static void undoOfEachKindWithHerNumberAndV() {
        for (int kind = 0; kind <= 6; kind++) {
            AuntsInTurn x = played("aunt 0 1 0", "aunt 0 1 0", "aunt " + kind + " 7 9", "text bold 4 p=2", "valley", "image");
            int[] acts = {x.act(2, 0, 5), x.act(2, 1, 5), x.act(2, 2, 5)};
            Edges.due("undo", x.undo(), 3);
            Edges.due("KIND", x.of(2, 0), kind);
            Edges.due("v", x.of(2, 1), 7);
            Edges.due("KNOWS", x.of(2, 2), 9);
            Edges.due("MOUTH by her number", x.says(2, 0, 1), 5);
            for (int act = 0; act < 3; act++) {
                Edges.due("act " + act + " of KIND " + kind, x.act(2, act, 5), acts[act]);
            }
        }
    }

    @Edge(of = "Promise 35: undo", says = UNDO)
    static void undoOfRowsAndATapeWithOthersInTheirPlaces() {
        AuntsInTurn x = Scenes.some();
        x.image();
        Edges.due("the tape is read", x.valley(), 1);
        Played.on(x, "text nerve 99", "say -1 0", "say 1 1", "say 2 2", "plan -1 0", "plan 3 0", "plan 3 2", "plan 1 0", "plan 2 1",
            "book -1 0", "book 1 1", "book 1 2");
        Edges.due("undo", x.undo(), 4);
        AuntsInTurn twin = Scenes.some();
        twin.image();
        Edges.same("after undo", x, twin);
    }

    private static final String COUNT = "0 AUNTS, 1 ASKERS, 2 VALLEYS, 3 rows of SAID, 4 of the PLAN, 5 rows of BOOK, 6 signs of THE TAPE, 7 bodies that ran in the latest act() (all, kept or not). NONE.";

    @Edge(of = "Promise 36: count", says = COUNT)
    static void countOfWhatThereIs() {
        int[] these = {0, 1, 2, 3, 4, 5, 6, 7};
        Edges.only(Edges.NONE, AuntsInTurn::new, "count(n) of a new object", (x, n) -> x.count(n), these);
        Edges.only(Edges.NONE, Scenes::some, "count(n)", (x, n) -> x.count(n), these);
        Edges.only(Edges.NONE, Scenes::full, "count(n)", (x, n) -> x.count(n), these);
    }

    @Edge(of = "Promise 36: count", says = COUNT)
    static void countOfNothingAndOfAllThatThereMayBe() {
        int[] most = {6, 5, 5, 5, 8, 8, 5};
        AuntsInTurn none = new AuntsInTurn();
        AuntsInTurn full = Scenes.full();
        for (int what = 0; what < most.length; what++) {
            Edges.due("count(" + what + ") of nothing", none.count(what), 0);
            Edges.due("count(" + what + ") of all", full.count(what), most[what]);
        }
        Edges.due("bodies", full.count(7), 7);
        Edges.due("signs of a full tape", Scenes.fullTape().count(6), 100);
    }
}
