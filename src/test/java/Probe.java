import java.util.ArrayList;
import java.util.List;

/** What an object answers to everything that one can ask it, and by some changes that tell what can't be asked. */
final class Probe {
    private static final int AUNTS = 6, ASKERS = 5;

    private final AuntsInTurn x;
    private final List<String> answers = new ArrayList<>();

    private Probe(AuntsInTurn x) {
        this.x = x;
    }

    /** At most so many calls: with what was called ahead of it, no more than 512. The object is used up then. */
    static final int CALLS = 302;

    static List<String> of(AuntsInTurn x) {
        Probe probe = new Probe(x);
        probe.askAll();
        probe.rowsAndTape();
        probe.put("undo", x.undo());
        probe.askOfAll();
        probe.put("who", x.who());
        probe.put("done 1", x.done(1));
        probe.put("looked", x.looked());
        probe.rowsAndTape();
        return probe.answers;
    }

    /** The first answer by which the two differ, or nothing. */
    static String difference(AuntsInTurn one, AuntsInTurn other) {
        List<String> first = of(one);
        List<String> second = of(other);
        for (int i = 0; i < first.size(); i++) {
            if (!first.get(i).equals(second.get(i))) {
                return first.get(i) + " and not " + second.get(i);
            }
        }
        return "";
    }

    private void put(String call, long answer) {
        answers.add(call + " = " + answer);
    }

    private void askAll() {
        askOfAll();
        for (int i = 0; i < AUNTS; i++) {
            put("says " + i, x.says(i, 0, 2));
            put("mouth " + i, x.says(i, 21, 1));
            for (int what = 0; what < 2; what++) {
                put("knew " + i, x.knew(i, what));
                put("firm " + i, x.firm(i, what));
            }
        }
        for (int i = 0; i < ASKERS; i++) {
            put("comes " + i, x.at(i, 4));
            put("on 1 heard " + i, x.on(1, 10 + i));
            put("on 5 heard " + i, x.on(5, 10 + i));
            put("on 5 place " + i, x.on(5, 20 + i));
            put("on 5 shock " + i, x.on(5, 30 + i));
        }
        put("on back", x.on(3, 0));
        for (int what = 0; what < 3; what++) {
            put("up " + what, x.climb(0, 0, what));
            put("down " + what, x.climb(1, 0, what));
        }
        for (int k = 0; k < AUNTS; k++) {
            put("order " + k, x.order(0, 10 + k));
        }
        for (int fact = 0; fact < 8; fact++) {
            put("hush " + fact, x.hush(fact));
            put("odds " + fact, x.odds(0, fact, 0));
            put("trace " + fact, x.trace(fact));
        }
        put("whole", x.whole(0));
        put("who", x.who());
        put("mean", x.mean(0));
        put("done 0", x.done(0));
        put("done 1", x.done(1));
        put("looked", x.looked());
    }

    private void askOfAll() {
        for (int what = 0; what < 8; what++) {
            put("count " + what, x.count(what));
            put("weight " + what, x.told(10 + what));
        }
        for (int what = 0; what < 5; what++) {
            put("told " + what, x.told(what));
        }
        for (int i = 0; i < AUNTS; i++) {
            for (int what = 0; what < 3; what++) {
                put("of " + i + " " + what, x.of(i, what));
            }
        }
        for (int i = 0; i < ASKERS; i++) {
            for (int what = 0; what < 4; what++) {
                put("at " + i + " " + what, x.at(i, what));
            }
        }
    }

    private void rowsAndTape() {
        for (int i = 0; i < AUNTS; i++) {
            int rows = x.of(i, 0) == 6 ? 4 : 0;
            for (int k = 0; k < rows; k++) {
                put("row " + i + " " + k, x.row(i, k, 7));
            }
        }
        put("valley", x.valley());
        put("nerve", x.told(1));
        for (int i = 0; i < AUNTS; i++) {
            put("mouth " + i, x.says(i, 0, 1));
        }
    }
}
