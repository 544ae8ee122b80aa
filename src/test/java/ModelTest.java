import java.lang.reflect.InvocationTargetException;
import java.lang.reflect.Method;
import java.util.Arrays;
import java.util.Comparator;
import java.util.Map;

/** Long runs of all calls, answered by the class as by the model; each run is the same each time. */
public final class ModelTest {
    private static final int RUNS = 1200, CALLS = 512, TEXTS = 60000;
    /** What each argument is drawn by: from 0 on to below that, sometimes beside it; -1 a fact set, -2 anything. */
    private static final Map<String, int[]> RANGES = Map.ofEntries(
        Map.entry("aunt", new int[] {7, 10, -1}), Map.entry("of", new int[] {6, 4}),
        Map.entry("says", new int[] {6, -1, 3}), Map.entry("row", new int[] {6, 4, 10}),
        Map.entry("learn", new int[] {6, -1}), Map.entry("away", new int[] {6, 2}),
        Map.entry("weigh", new int[] {8, 10}), Map.entry("asker", new int[] {}),
        Map.entry("at", new int[] {5, 5}), Map.entry("begin", new int[] {5, -1}),
        Map.entry("told", new int[] {18}), Map.entry("pass", new int[] {7}),
        Map.entry("on", new int[] {12, 36}), Map.entry("climb", new int[] {2, -1, 3}),
        Map.entry("order", new int[] {-1, 16}), Map.entry("hush", new int[] {8}),
        Map.entry("whole", new int[] {2}), Map.entry("say", new int[] {-1, -1}),
        Map.entry("knew", new int[] {6, 2}), Map.entry("firm", new int[] {6, 2}),
        Map.entry("who", new int[] {}), Map.entry("odds", new int[] {-1, 8, 2}),
        Map.entry("mean", new int[] {2}), Map.entry("plan", new int[] {4, 5}),
        Map.entry("done", new int[] {2}), Map.entry("book", new int[] {5, -1}),
        Map.entry("looked", new int[] {}), Map.entry("act", new int[] {6, 3, -2}),
        Map.entry("trace", new int[] {7}), Map.entry("as", new int[] {6, 7}),
        Map.entry("image", new int[] {}), Map.entry("undo", new int[] {}),
        Map.entry("count", new int[] {8}), Map.entry("valley", new int[] {}), Map.entry("feed", new int[] {128}));

    private static final Check check = new Check();
    private static long seed = 20261118;

    private AuntsInTurn real = new AuntsInTurn();
    private Model model = new Model();
    private int run;
    private int calls = 0;

    public static void main(String[] args) throws ReflectiveOperationException {
        Method[] methods = Arrays.stream(AuntsInTurn.class.getMethods())
            .filter(method -> method.getDeclaringClass() == AuntsInTurn.class)
            .sorted(Comparator.comparing(Method::getName)).toArray(Method[]::new);
        check.due("methods", methods.length, RANGES.size());
        for (int run = 0; run < RUNS && check.allRight(); run++) {
            ModelTest test = new ModelTest();
            test.run = run;
            test.play(methods);
        }
        for (int i = 0; i < TEXTS && check.allRight(); i++) {
            faultOf(spoilt(text()));
        }
        check.end();
    }

    private static int draw(int below) {
        seed = seed * 6364136223846793005L + 1442695040888963407L;
        return (int) Math.floorMod(seed >>> 33, (long) below);
    }

    private void play(Method[] methods) throws ReflectiveOperationException {
        for (int i = draw(7); i > 0; i--) {
            call(method(methods, "aunt"));
        }
        for (int i = draw(6); i > 0; i--) {
            call(method(methods, "asker"));
        }
        // room for a text and its valley()
        while (calls <= CALLS - 102 && check.allRight()) {
            if (draw(60) == 0) {
                String text = draw(3) == 0 ? spoilt(text()) : text();
                for (int i = 0; i < text.length() && i < 101; i++) {
                    int sign = text.charAt(i);
                    due("feed(" + sign + ")", real.feed(sign), model.feed(sign));
                }
                due("valley()", real.valley(), model.valley());
            } else {
                Method method = methods[draw(methods.length)];
                // these end the variety of a run, or are dear
                boolean seldom = "undo image feed valley knew order".contains(method.getName());
                if (!seldom || draw(4) == 0) {
                    call(method);
                }
            }
        }
    }

    private static Method method(Method[] methods, String name) {
        return Arrays.stream(methods).filter(method -> method.getName().equals(name)).findFirst().orElseThrow();
    }

    private void call(Method method) throws ReflectiveOperationException {
        int[] ranges = RANGES.get(method.getName());
        Object[] args = new Object[ranges.length];
        for (int i = 0; i < args.length; i++) {
            int n = argument(ranges[i]);
            args[i] = method.getParameterTypes()[i] == boolean.class ? (Object) (n == 1) : (Object) n;
        }
        if (method.getName().equals("say") && draw(2) == 0 && args[0] instanceof Integer heard) {
            // a row that can fit one of the aunts
            args[1] = Math.max(0, model.says(draw(6), heard, 2));
        }
        if (method.getName().equals("book") && draw(2) == 0 && args[0] instanceof Integer asker) {
            args[1] = Math.max(0, model.at(asker, 0));
        }
        String text = method.getName() + Arrays.toString(args);
        try {
            Method twin = Model.class.getMethod(method.getName(), method.getParameterTypes());
            Number got = (Number) method.invoke(real, args);
            due(text, got.longValue(), ((Number) twin.invoke(model, args)).longValue());
        } catch (InvocationTargetException e) {
            e.getCause().printStackTrace(System.out);
            due(text + " threw", 1, 0);
        }
    }

    private void due(String call, long got, long want) {
        calls++;
        check.due("run " + run + ", call " + calls + ": " + call, got, want);
    }

    private static int argument(int range) {
        if (draw(25) == 0) {
            int[] wild = {-1, -2, 256, 10, 61, 100, Integer.MAX_VALUE, Integer.MIN_VALUE, range};
            return wild[draw(wild.length)];
        }
        if (range == -2) {
            return (int) (seed >>> 20);
        }
        if (range == -1) {
            int facts = draw(256);
            return draw(2) == 0 ? facts & draw(256) : facts;
        }
        return draw(range);
    }

    private static void faultOf(String text) {
        AuntsInTurn x = new AuntsInTurn();
        Check.feed(x, text);
        String taken = text.substring(0, Math.min(100, text.length()));
        int fault = Model.fault(taken);
        check.due("valley of '" + taken + "'", x.valley(), fault < 0 ? 0 : -10 - fault);
    }

    // ---- texts of valleys

    private static String text() {
        StringBuilder text = new StringBuilder();
        for (int i = draw(12) == 0 ? 11 : 1 + draw(4); i > 0; i--) {
            int kind = draw(5);
            text.append(text.length() == 0 ? "" : ";");
            if (kind == 0) {
                text.append("nerve ").append(draw(2) == 0 ? draw(100) : draw(30));
            } else {
                text.append(kind < 4 ? "bold " : "shy ").append(draw(4) == 0 ? draw(100) : draw(4)).append(' ');
                text.append(either(0));
            }
        }
        return text.toString();
    }

    private static String either(int open) {
        return both(open) + (draw(3) == 0 ? "|" + both(open) : "");
    }

    private static String both(int open) {
        return single(open) + (draw(3) == 0 ? "&" + single(open) : "");
    }

    private static String single(int open) {
        if (open < 6 && draw(4) == 0) {
            return "!" + single(open + 1);
        }
        if (open < 6 && draw(5) == 0) {
            return "(" + either(open + 1) + ")";
        }
        return "" + "pkvhld".charAt(draw(6)) + "<=>".charAt(draw(3)) + (draw(9) == 0 ? draw(100) : draw(7));
    }

    /** The text with one sign or some more out of its place. */
    private static String spoilt(String text) {
        String signs = "nervboldshy 0123456789;|&!()pkvhld<=>";
        StringBuilder spoilt = new StringBuilder(text);
        for (int i = draw(3); i > 0; i--) {
            char sign = draw(20) == 0 ? (char) draw(128) : signs.charAt(draw(signs.length()));
            int at = draw(spoilt.length() + 1);
            if (draw(3) == 0 && at < spoilt.length()) {
                spoilt.deleteCharAt(at);
            } else if (draw(2) == 0 && at < spoilt.length()) {
                spoilt.setCharAt(at, sign);
            } else {
                spoilt.insert(at, sign);
            }
        }
        if (draw(6) == 0) {
            spoilt.setLength(draw(spoilt.length() + 1));
        }
        return spoilt.toString();
    }
}
