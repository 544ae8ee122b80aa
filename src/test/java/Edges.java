import java.lang.reflect.InvocationTargetException;
import java.lang.reflect.Method;
import java.util.Arrays;
import java.util.Comparator;
import java.util.List;
import java.util.function.Supplier;
import java.util.function.ToLongFunction;

/** What the tests of boundary cases and of other sentences share: each is a static method with an Edge, and is told by that. */
final class Edges {
    static final int NONE = -1, BAD = -2, STATE = -3, FULL = -4, NOT_ANY = -5, OTHER_KIND = -6;
    static final long NO = Long.MIN_VALUE;

    private static final Check check = new Check();
    private static String test = "";

    /** A call by the number that is looked at. */
    interface Asked {
        long of(AuntsInTurn x, int n);
    }

    private Edges() {
    }

    static List<Method> tests(Class<?> of) {
        return Arrays.stream(of.getDeclaredMethods()).filter(method -> method.isAnnotationPresent(Edge.class))
            .sorted(Comparator.comparing(Method::getName)).toList();
    }

    static void run(Class<?> of) throws IllegalAccessException {
        List<Method> tests = tests(of);
        for (Method method : tests) {
            Edge edge = method.getAnnotation(Edge.class);
            test = edge.of() + ", '" + edge.says() + "', " + method.getName() + ": ";
            int before = check.asked();
            try {
                method.invoke(null);
            } catch (InvocationTargetException e) {
                e.getCause().printStackTrace(System.out);
                due("the test threw", 1, 0);
            }
            check.due(test + "looks at something", check.asked() > before ? 1 : 0, 1);
        }
        System.out.println(tests.size() + " tests");
        check.end();
    }

    static void due(String call, long got, long want) {
        check.due(test + call, got, want);
    }

    static AuntsInTurn played(String... calls) {
        return Scenes.played(calls);
    }

    /** Where all is as in the scene, the call is refused, and all that can be asked then is as without it. */
    static void refused(long refusal, Supplier<AuntsInTurn> scene, String call, ToLongFunction<AuntsInTurn> asked) {
        AuntsInTurn x = scene.get();
        due(call, asked.applyAsLong(x), refusal);
        same(call + " changes", x, scene.get());
    }

    static void refused(long refusal, String call, ToLongFunction<AuntsInTurn> asked) {
        refused(refusal, Scenes::some, call, asked);
    }

    static void same(String call, AuntsInTurn x, AuntsInTurn twin) {
        String difference = Probe.difference(x, twin);
        due(call + " " + difference, difference.isEmpty() ? 0 : 1, 0);
    }

    static boolean isRefusal(long answer) {
        return answer <= NONE && answer >= FULL || answer == NO;
    }

    /** From least to most it is taken; the numbers beside them and far from them are refused, and change nothing. */
    static void range(long refusal, int least, int most, Supplier<AuntsInTurn> scene, String call, Asked asked) {
        for (int n = least; n <= most; n++) {
            taken(scene, call, n, asked);
        }
        above(refusal, most, scene, call, asked);
        for (int n : new int[] {least - 1, least - 2, least - 1000, Integer.MIN_VALUE, Integer.MIN_VALUE + 1}) {
            refused(refusal, scene, call + " by " + n, x -> asked.of(x, n));
        }
    }

    static void range(long refusal, int least, int most, String call, Asked asked) {
        range(refusal, least, most, Scenes::some, call, asked);
    }

    static void taken(Supplier<AuntsInTurn> scene, String call, int n, Asked asked) {
        long answer = asked.of(scene.get(), n);
        due(call + " by " + n + " is refused by " + answer, isRefusal(answer) ? 1 : 0, 0);
    }

    /** The numbers above the most are refused, and change nothing. */
    static void above(long refusal, int most, Supplier<AuntsInTurn> scene, String call, Asked asked) {
        for (int n : new int[] {most + 1, most + 2, most + 1000, Integer.MAX_VALUE, Integer.MAX_VALUE - 1}) {
            refused(refusal, scene, call + " by " + n, x -> asked.of(x, n));
        }
    }

    /** By these and no others of -20 to 300 it is taken. */
    static void only(long refusal, Supplier<AuntsInTurn> scene, String call, Asked asked, int... these) {
        for (int n = -20; n <= 300; n++) {
            int which = n;
            if (Arrays.stream(these).anyMatch(one -> one == which)) {
                taken(scene, call, n, asked);
            } else {
                due(call + " by " + n, asked.of(scene.get(), n), refusal);
            }
        }
        for (int n : new int[] {Arrays.stream(these).min().orElse(0) - 1, Integer.MIN_VALUE, Integer.MIN_VALUE + 10}) {
            refused(refusal, scene, call + " by " + n, x -> asked.of(x, n));
        }
        above(refusal, Arrays.stream(these).max().orElse(0), scene, call, asked);
    }

    static int valley(String text) {
        return Check.valley(new AuntsInTurn(), text);
    }

    static void well(String text) {
        due("valley of '" + text + "'", valley(text), 0);
    }

    /** Where the first byte is with which no VALLEY goes on. */
    static void fault(String text, int place) {
        due("valley of '" + text + "'", valley(text), -10 - place);
    }
}
