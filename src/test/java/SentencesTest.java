import java.io.IOException;
import java.lang.reflect.Method;
import java.lang.reflect.Modifier;
import java.nio.file.Files;
import java.nio.file.Path;
import java.util.ArrayList;
import java.util.Arrays;
import java.util.List;

/** The sentences that no test of a boundary case quotes: what it is, the bodies of the ACTS, what the interface says. */
public final class SentencesTest {
    private static final Path SOURCE = Path.of("src/main/java/AuntsInTurn.java");
    private static final int CALLS = 512;

    public static void main(String[] args) throws IllegalAccessException {
        Edges.run(SentencesTest.class);
    }

    private static AuntsInTurn played(String... calls) {
        return Edges.played(calls);
    }

    @Edge(of = "What it is", says = "Great-aunts are consulted in sequence: aunts who live one behind the other up a valley, facts each of "
        + "them knows, askers who go from house to house day by day and are told what they have not heard, whom it may be too much for, "
        + "valleys that are texts of who says how much when, how much nerve one has; aunts of kinds who are blunt, meek, sly, pious, "
        + "bake, as told;")
    static void auntsAskersAndValleys() {
        AuntsInTurn x = new AuntsInTurn();
        for (int kind = 0; kind < 5; kind++) {
            Edges.due("one behind the other", x.aunt(kind, 3, 3 << kind), kind);
        }
        Edges.due("facts each of them knows", x.of(4, 2), 48);
        Edges.due("an asker", x.asker(), 0);
        Edges.due("one more", x.asker(), 1);
        x.begin(1, 1);
        Edges.due("a day", x.pass(1), 1);
        Edges.due("who has heard nothing is told the first", x.at(0, 0), 1);
        Edges.due("who has heard that is told the next", x.at(1, 0), 3);
        Edges.due("from house to house", x.at(0, 2), 1);
        Edges.due("a text of who says how much when", Check.valley(x, "nerve 2;bold 1 p=1&d=1;shy 1 k=2"), 0);
        Edges.due("how much nerve one has", x.told(1), 2);
        Edges.due("she says more than one on that day", x.says(1, 0, 2), 6);
        Edges.due("the next day", x.pass(1), 2);
        Edges.due("it is too much for one", x.at(0, 3), 1);
        Edges.due("and not for the other", x.at(1, 3), 0);
        Edges.due("one more aunt", x.aunt(5, 9, 0), 5);
        Edges.due("who bakes", x.says(5, 0, 2), 1);
        Edges.due("and one as told", played("aunt 6 0 15", "row 0 0 9").says(0, 0, 2), 9);
    }

    @Edge(of = "What it is", says = "days one by one, what one hears where, who turns back at whom, how a climb goes from below or from "
        + "above, in which order of houses one hears most, who must be away so that a fact is not heard, how few know all, what an aunt "
        + "can have known by what she said, how firm she is, odds by an aunt who is away, means, plans row by row, what was heard told "
        + "by hand looked at, an image.")
    static void whatCanBeAsked() {
        AuntsInTurn x = played("aunt 0 1 1", "aunt 2 2 3", "aunt 3 0 12", "asker", "asker", "text nerve 2", "valley");
        Edges.due("days one by one", x.pass(1) * 10 + x.pass(1), 12);
        Edges.due("what one hears where", x.on(1, 10) * 10 + x.on(1, 20), 112);
        Edges.due("who turns back", x.at(0, 4), -5);
        Edges.due("at whom", x.climb(0, 0, 2), 2);
        Edges.due("a climb from below", x.climb(0, 0, 0), 11);
        Edges.due("a climb from above", x.climb(1, 0, 0), 9);
        Edges.due("the order of houses", x.order(0, 10) * 100 + x.order(0, 11) * 10 + x.order(0, 12), 21);
        Edges.due("who must be away", x.hush(3), 4);
        Edges.due("how few know all", x.whole(0), 6);
        Edges.due("what she said", x.say(1, 2), 1);
        Edges.due("what she can have known", x.knew(1, 1), 2);
        Edges.due("how firm she is", x.firm(1, 1), 2);
        Edges.due("odds above the line", x.odds(0, 1, 0), 1);
        Edges.due("odds below the line", x.odds(0, 1, 1), 3);
        Edges.due("a mean", x.mean(0) * 10 + x.mean(1), 21);
        Edges.due("a plan row by row", x.plan(1, 2) * 10 + x.plan(0, 0), 12);
        Edges.due("what comes of it", x.done(1), 2);
        Edges.due("told by hand", x.book(0, 3) * 10 + x.book(1, 1), 12);
        Edges.due("looked at", x.looked(), 1);
        Edges.due("an image", x.image(), 3);
        Edges.due("a fourth aunt", x.aunt(6, 0, 0), 3);
        Edges.due("as it was", x.undo(), 3);
    }

    /** Calls by which a run may fill its 512: each is made again and again, and the last answers as the model still. */
    private static final String[] EACH = {"feed 33", "valley", "aunt 1 1 1", "of 0 2", "says 1 0 2", "row 0 1 5", "learn 1 77", "away 2 true",
        "weigh 3 4", "asker", "at 0 4", "begin 2 5", "told 3", "pass 7", "on 60 12", "climb 0 0 0", "order 0 15", "hush 0", "whole 0",
        "say 0 1", "knew 0 0", "firm 0 1", "who", "odds 0 1 0", "mean 0", "plan 0 0", "done 1", "book 1 1", "looked", "act 2 2 9",
        "trace 2", "as 0 3", "image", "undo", "count 7"};

    @Edge(of = "What it is", says = "An object is used for at most 512 calls after it has been made; what later calls answer is free.")
    static void the512thCallAnswersStill() {
        int scene = Arrays.stream(Scenes.SOME).mapToInt(call -> call.startsWith("text ") ? call.length() - 5 : 1).sum();
        List<String> names = new ArrayList<>();
        for (String call : EACH) {
            AuntsInTurn x = new AuntsInTurn();
            Model model = new Model();
            Played.on(x, Scenes.SOME);
            Played.on(model, Scenes.SOME);
            String[] words = call.split(" ");
            names.add(words[0]);
            for (int i = scene + 1; i <= CALLS; i++) {
                Edges.due(call + ", call " + i, Played.one(x, call), Played.one(model, call));
            }
        }
        Arrays.stream(AuntsInTurn.class.getDeclaredMethods()).filter(method -> Modifier.isPublic(method.getModifiers()))
            .map(Method::getName).forEach(name -> Edges.due(name + " is one of them", names.contains(name) ? 1 : 0, 1));
    }

    @Edge(of = "Terms 1", says = "as they come, up the valley,")
    static void thoseWhoComeLaterLiveFurtherUp() {
        AuntsInTurn x = played("aunt 6 1 4", "aunt 0 1 2", "aunt 4 1 1", "asker");
        int[] heard = {4, 6, 7};
        for (int i = 0; i < 3; i++) {
            Edges.due("her number", x.of(i, 0), new int[] {6, 0, 4}[i]);
            x.pass(1);
            Edges.due("HEARD from below on", x.at(0, 0), heard[i]);
        }
        Edges.due("one more comes behind them", x.aunt(1, 1, 128), 3);
        x.pass(1);
        Edges.due("HEARD of her last", x.at(0, 0), 135);
    }

    @Edge(of = "Terms 1", says = "SAYS of her by what is HEARD (FACTS):")
    static void whatSheSaysIsASetThatIsNotHeard() {
        for (int kind = 0; kind <= 6; kind++) {
            for (int first = 0; first < 256; first += 64) {
                AuntsInTurn x = played("aunt " + kind + " 6 214", "text bold 1 l>3", "valley", "weigh 4 3");
                for (int heard = first; heard < first + 64; heard++) {
                    int said = x.says(0, heard, 2);
                    int left = x.says(0, heard, 0);
                    int more = kind == 5 ? 1 : 0;
                    String call = "KIND " + kind + " where " + heard + " is HEARD";
                    Edges.due(call + " says what is HEARD", said & heard, 0);
                    Edges.due(call + " says what she does not KNOW", said & ~(left | more), 0);
                    Edges.due(call + " says more than MOUTH", Math.max(0, Integer.bitCount(said & left & ~more) - x.says(0, heard, 1)), 0);
                }
            }
        }
    }

    @Edge(of = "Terms 2", says = "each SAYS by what is HEARD then;")
    static void eachSaysByWhatIsHeardThen() {
        // the MEEK one says nothing where two FACTS are HEARD; the other says what is LEFT then
        AuntsInTurn x = played("aunt 0 0 3", "aunt 0 0 3", "aunt 2 2 4");
        Edges.due("up: two are HEARD when the climber comes to the MEEK one", x.climb(0, 0, 0), 3);
        Edges.due("down: none is HEARD then", x.climb(1, 0, 0), 7);
        Edges.due("up, one HEARD ahead of it", x.climb(0, 1, 0), 3);
        Edges.due("down, one HEARD ahead of it", x.climb(1, 1, 0), 7);
        Played.on(x, "text bold 1 h=1", "valley");
        Edges.due("up, MOUTH by what is HEARD then", x.climb(0, 0, 1), 2);
        Edges.due("up, from one that is HEARD", x.climb(0, 4, 1), 2);
        Edges.due("down, MOUTH by what is HEARD then", x.climb(1, 0, 0), 7);
    }

    // ---- the bodies, of AUNT 2 with v 5, called with 7

    private static void act(int kind, int act, int want, int... bodies) {
        AuntsInTurn x = played("aunt 0 0 0", "aunt 0 9 0", "aunt " + kind + " 5 0");
        String call = "act " + act + " of KIND " + kind;
        Edges.due(call, x.act(2, act, 7), want);
        Edges.due(call + ": bodies", x.count(7), bodies.length);
        for (int i = 0; i < bodies.length; i++) {
            Edges.due(call + ": body " + i, x.trace(i), bodies[i]);
        }
    }

    @Edge(of = "Terms 2", says = "BODIES: AUNT: 1 rings: x + i. 2 asks: rings(x) - v. 3 warns: asks(x) * 2.")
    static void bodiesOfAnAunt() {
        act(0, 0, 9, 1);
        act(0, 1, 4, 2, 1);
        act(0, 2, 8, 3, 2, 1);
    }

    @Edge(of = "Terms 2", says = "BLUNT: 11 rings: super.rings(x * 3).")
    static void bodyOfABlunt() {
        act(1, 0, 23, 11, 1);
    }

    @Edge(of = "Terms 2", says = "MEEK: 21 asks: -super.asks(x).")
    static void bodyOfAMeek() {
        act(2, 1, -4, 21, 2, 1);
    }

    @Edge(of = "Terms 2", says = "SLY: 31 warns: super.warns(x) ^ 7.")
    static void bodyOfASly() {
        act(3, 2, 15, 31, 3, 2, 1);
    }

    @Edge(of = "Terms 2", says = "PIOUS: 41 warns: super.warns(x - 1) + rings(2).")
    static void bodyOfAPious() {
        // warns(6): ((18 + 2) - 5) * 2; rings(2): 6 + 2
        act(4, 2, 38, 41, 3, 2, 11, 1, 11, 1);
    }

    @Edge(of = "Terms 2", says = "BAKER: 51 rings: super.rings(x) ^ i.")
    static void bodyOfABaker() {
        act(5, 0, 11, 51, 1);
    }

    @Edge(of = "Terms 2", says = "TOLD: 61 asks: super.asks(x) + v.")
    static void bodyOfATold() {
        act(6, 1, 9, 61, 2, 1);
    }

    @Edge(of = "Terms 2", says = "rings(..) and so on: the body of its KIND, or, if that has none, of the next KIND above that has one;")
    static void theBodyOfItsKindOrOfTheNextAboveThatHasOne() {
        act(1, 1, 18, 2, 11, 1);
        act(1, 2, 36, 3, 2, 11, 1);
        act(2, 0, 9, 1);
        act(2, 2, -8, 3, 21, 2, 1);
        act(3, 0, 9, 1);
        act(3, 1, 4, 2, 1);
        act(4, 0, 23, 11, 1);
        act(4, 1, 18, 2, 11, 1);
        act(5, 2, -12, 3, 21, 2, 51, 1);
        act(6, 0, 9, 1);
    }

    @Edge(of = "Terms 2", says = "super.rings(..): so from the KIND above the body's on;")
    static void superGoesOnAboveTheBodysKindNotTheAunts() {
        // the body of MEEK goes on at AUNT, though she is a BAKER; the body of SLY, though she is a TOLD one
        act(5, 1, -6, 21, 2, 51, 1);
        act(6, 2, 21, 31, 3, 61, 2, 1);
    }

    @Edge(of = "Terms 2", says = "what stands in a body is done from the left on.")
    static void fromTheLeftOn() {
        AuntsInTurn x = played("aunt 4 1 0", "act 0 2 0");
        // were rings(2) ahead of super.warns, 11 would stand behind 41
        Edges.due("the body itself", x.trace(0), 41);
        Edges.due("super.warns first", x.trace(1), 3);
        Edges.due("rings(2) then", x.trace(5), 11);
    }

    // ---- what the interface says

    private static List<String> source() {
        try {
            return Files.readAllLines(SOURCE);
        } catch (IOException e) {
            throw new IllegalStateException(e);
        }
    }

    /** The calls behind the heading, up to the next one, are just those that the sentence tells, in its order. */
    private static void headed(String sentence) {
        String heading = sentence.substring(sentence.indexOf("---- "));
        List<String> calls = new ArrayList<>();
        boolean under = false;
        for (String line : source()) {
            String text = line.trim();
            if (text.startsWith("// ----")) {
                under = text.equals("// " + heading.replaceAll("\\.$", ""));
            } else if (under && text.startsWith("public ")) {
                calls.add("`" + text.substring(0, text.indexOf('(')).replaceAll(".* ", "") + "`");
            }
        }
        String told = sentence.substring("Ahead of the calls ".length(), sentence.indexOf(" the interface says"));
        Edges.due("calls behind '" + heading + "': " + String.join(", ", calls), String.join(", ", calls).equals(told) ? 1 : 0, 1);
    }

    private static final String AHEAD_OF_FEED = "Ahead of the calls `feed`, `valley`, `aunt`, `of`, `says`, `row`, `learn`, `away`, "
        + "`weigh`, `asker`, `at`, `begin`, `told`, `pass` the interface says: ---- valleys, aunts, askers.";

    @Edge(of = "Terms 3", says = AHEAD_OF_FEED)
    static void aheadOfFeed() {
        headed(AHEAD_OF_FEED);
    }

    private static final String AHEAD_OF_ON = "Ahead of the calls `on`, `climb`, `order`, `hush`, `whole` the interface says: "
        + "---- days to come, climbs.";

    @Edge(of = "Terms 3", says = AHEAD_OF_ON)
    static void aheadOfOn() {
        headed(AHEAD_OF_ON);
    }

    private static final String AHEAD_OF_SAY = "Ahead of the calls `say`, `knew`, `firm`, `who`, `odds`, `mean` the interface says: "
        + "---- said, odds; part 0 above, 1 below the line.";

    @Edge(of = "Terms 3", says = AHEAD_OF_SAY)
    static void aheadOfSay() {
        headed(AHEAD_OF_SAY);
    }

    private static final String AHEAD_OF_PLAN = "Ahead of the calls `plan`, `done`, `book`, `looked` the interface says: ---- plans, books.";

    @Edge(of = "Terms 3", says = AHEAD_OF_PLAN)
    static void aheadOfPlan() {
        headed(AHEAD_OF_PLAN);
    }

    private static final String AHEAD_OF_ACT = "Ahead of the calls `act`, `trace`, `as`, `image`, `undo`, `count` the interface says: "
        + "---- acts, the image.";

    @Edge(of = "Terms 3", says = AHEAD_OF_ACT)
    static void aheadOfAct() {
        headed(AHEAD_OF_ACT);
    }

    private static final String CONSTANTS = "The constants: `NO = Long.MIN_VALUE`: There is no such number.";

    @Edge(of = "Terms 3", says = CONSTANTS)
    static void theConstantStandsInTheSource() {
        String constant = CONSTANTS.substring(CONSTANTS.indexOf('`') + 1, CONSTANTS.lastIndexOf('`'));
        long lines = source().stream().filter(line -> line.trim().equals("public static final long " + constant + ";")).count();
        Edges.due("lines that tell " + constant, lines, 1);
    }
}
