import java.lang.reflect.Method;
import java.lang.reflect.Modifier;
import java.util.Arrays;
import java.util.List;

/**
 * Each call with all numbers at and about every boundary, in all their pairs and threes, where nothing is there, where
 * some of all is there, and where all is full: it answers as the model, and where it is refused it changes nothing.
 */
public final class SweepTest {
    private static final int MIN = Integer.MIN_VALUE, MAX = Integer.MAX_VALUE, CALLS = 512;
    private static final int[] MANY = {MIN, MIN + 10, -1000, -11, -10, -6, -5, -4, -3, -2, -1, 0, 1, 2, 3, 4, 5, 6, 7, 8, 9, 10, 11,
        12, 13, 14, 15, 16, 17, 18, 19, 20, 22, 23, 24, 25, 29, 30, 32, 33, 34, 35, 39, 40, 59, 60, 61, 99, 100, 127, 128, 254, 255,
        256, 257, 999, MAX - 10, MAX};
    private static final int[] SOME = {MIN, -2, -1, 0, 1, 2, 3, 4, 5, 6, 7, 8, 9, 10, 255, 256, MAX};
    private static final List<String> ASKS = List.of("of", "says", "at", "told", "on", "climb", "order", "hush", "whole", "knew",
        "firm", "who", "odds", "mean", "done", "looked", "trace", "as", "count");

    private static final Check check = new Check();

    private final String[] scene;
    private AuntsInTurn real;
    private Model model;
    /** How many calls may still be made of this object, and could be at first. */
    private int left = 0;
    private int atFirst = 0;

    private SweepTest(String... scene) {
        this.scene = scene;
    }

    public static void main(String[] args) {
        Method[] methods = Arrays.stream(AuntsInTurn.class.getDeclaredMethods())
            .filter(method -> Modifier.isPublic(method.getModifiers())).toArray(Method[]::new);
        check.due("calls", methods.length, 35);
        for (String[] scene : new String[][] {{}, Scenes.SOME, Scenes.FULL}) {
            SweepTest test = new SweepTest(scene);
            test.anew();
            for (Method method : methods) {
                test.sweep(method.getName(), method.getParameterTypes(), new Object[method.getParameterCount()], 0);
            }
            test.unchanged("the last of them");
        }
        check.end();
    }

    private void anew() {
        real = new AuntsInTurn();
        model = new Model();
        Played.on(real, scene);
        Played.on(model, scene);
        // a text is fed sign by sign, none of them longer than the scene's words
        left = CALLS - Probe.CALLS - Arrays.stream(scene).mapToInt(call -> call.startsWith("text ") ? call.length() : 1).sum();
        atFirst = left;
    }

    private void sweep(String name, Class<?>[] types, Object[] args, int at) {
        if (at == args.length) {
            ask(name, args);
        } else if (types[at] == boolean.class) {
            for (boolean is : new boolean[] {false, true}) {
                args[at] = is;
                sweep(name, types, args, at + 1);
            }
        } else {
            for (int n : args.length < 3 ? MANY : SOME) {
                args[at] = n;
                sweep(name, types, args, at + 1);
            }
        }
    }

    private void ask(String name, Object[] args) {
        String call = name + Arrays.toString(args) + " of " + scene.length;
        long want = Played.call(model, name, args);
        boolean changes = !ASKS.contains(name) && (!Edges.isRefusal(want) || name.equals("act"));
        if (changes || left <= 0) {
            unchanged(call);
            anew();
        }
        check.due(call, Played.call(real, name, args), want);
        left--;
        if (changes) {
            anew();
        }
    }

    /** What was called of this object so far was asked or refused: all is as in the scene. The object is used up. */
    private void unchanged(String call) {
        if (left == atFirst) {
            return;
        }
        AuntsInTurn twin = new AuntsInTurn();
        Played.on(twin, scene);
        String difference = Probe.difference(real, twin);
        check.due("calls ahead of " + call + " change " + difference, difference.isEmpty() ? 0 : 1, 0);
    }
}
