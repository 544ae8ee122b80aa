import java.lang.reflect.InvocationTargetException;
import java.lang.reflect.Method;
import java.util.HashMap;
import java.util.Map;

/** Calls written as words ("aunt 0 1 15"), played on the class or on the model; "text" and the rest is fed. */
final class Played {
    private static final Map<Class<?>, Map<String, Method>> METHODS = new HashMap<>();

    private Played() {
    }

    static void on(Object x, String... calls) {
        for (String call : calls) {
            if (call.startsWith("text ")) {
                for (char sign : call.substring(5).toCharArray()) {
                    call(x, "feed", (int) sign);
                }
            } else {
                one(x, call);
            }
        }
    }

    /** What the call answers. */
    static long one(Object x, String call) {
        String[] words = call.split(" ");
        Object[] args = new Object[words.length - 1];
        for (int i = 0; i < args.length; i++) {
            args[i] = argument(words[i + 1]);
        }
        return call(x, words[0], args);
    }

    private static Object argument(String word) {
        return word.equals("true") || word.equals("false") ? (Object) word.equals("true") : (Object) Integer.valueOf(word);
    }

    static long call(Object x, String name, Object... args) {
        try {
            return ((Number) methods(x.getClass()).get(name).invoke(x, args)).longValue();
        } catch (InvocationTargetException e) {
            throw new IllegalStateException(name, e.getCause());
        } catch (IllegalAccessException e) {
            throw new IllegalStateException(e);
        }
    }

    private static Map<String, Method> methods(Class<?> of) {
        return METHODS.computeIfAbsent(of, type -> {
            Map<String, Method> methods = new HashMap<>();
            for (Method method : type.getMethods()) {
                if (method.getDeclaringClass() == type) {
                    methods.put(method.getName(), method);
                }
            }
            return methods;
        });
    }
}
