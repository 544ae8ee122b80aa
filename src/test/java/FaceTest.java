import java.io.IOException;
import java.lang.reflect.Constructor;
import java.lang.reflect.Field;
import java.lang.reflect.Member;
import java.lang.reflect.Method;
import java.lang.reflect.Modifier;
import java.nio.file.Files;
import java.nio.file.Path;
import java.util.ArrayList;
import java.util.List;
import java.util.TreeSet;

/** The public face is the document's, and nothing more of the class is to be seen. */
public final class FaceTest {
    private static final Path SOURCE = Path.of("src/main/java/AuntsInTurn.java");
    private static final String[] METHODS = {
        "int feed(int)", "int valley()", "int aunt(int, int, int)", "int of(int, int)", "int says(int, int, int)",
        "int row(int, int, int)", "int learn(int, int)", "int away(int, boolean)", "int weigh(int, int)",
        "int asker()", "int at(int, int)", "int begin(int, int)", "int told(int)", "int pass(int)",
        "int on(int, int)", "int climb(int, int, int)", "int order(int, int)", "int hush(int)", "int whole(int)",
        "int say(int, int)", "int knew(int, int)", "int firm(int, int)", "int who()", "long odds(int, int, int)",
        "long mean(int)", "int plan(int, int)", "int done(int)", "int book(int, int)", "int looked()",
        "int act(int, int, int)", "int trace(int)", "int as(int, int)", "int image()", "int undo()",
        "int count(int)",
    };

    public static void main(String[] args) throws IOException {
        Check check = new Check();
        check.due("NONE", AuntsInTurn.NONE, -1);
        check.due("BAD", AuntsInTurn.BAD, -2);
        check.due("STATE", AuntsInTurn.STATE, -3);
        check.due("FULL", AuntsInTurn.FULL, -4);
        check.due("NO", AuntsInTurn.NO, Long.MIN_VALUE);
        int modifiers = AuntsInTurn.class.getModifiers();
        check.due("public and final", Modifier.isPublic(modifiers) && Modifier.isFinal(modifiers) ? 1 : 0, 1);
        same(check, seenMethods(), new TreeSet<>(List.of(METHODS)));
        same(check, seenFields(), new TreeSet<>(List.of("NONE", "BAD", "STATE", "FULL", "NO")));
        check.due("constructors", seenConstructors(), 1);
        noPrivateNamesake(check);
        nestedAreHidden(check);
        asTheDocumentSays(check);
        check.end();
    }

    /** Line by line, in the same order, names of arguments and all; each promise is of a call of the face. */
    private static void asTheDocumentSays(Check check) throws IOException {
        List<String> seen = new ArrayList<>();
        for (String line : Files.readAllLines(SOURCE)) {
            if (line.trim().startsWith("public ")) {
                seen.add(line.trim().replaceAll(" \\{$", ";"));
            }
        }
        List<String> face = new ArrayList<>();
        for (String line : Doc.face()) {
            if (line.trim().startsWith("public ")) {
                face.add(line.trim().replaceAll(" \\{$", ";"));
            }
        }
        check.due("lines of the face", face.isEmpty() ? seen.size() : face.size(), seen.size());
        for (int i = 0; i < Math.min(face.size(), seen.size()); i++) {
            check.due(face.get(i) + " and not " + seen.get(i), face.get(i).equals(seen.get(i)) ? 1 : 0, 1);
        }
        Doc.parts().forEach((part, text) -> {
            if (part.startsWith("Promise ")) {
                String call = text.substring(1, text.indexOf("`: "));
                check.due(part + " is of a call of the face", seen.contains("public " + call + ";") ? 1 : 0, 1);
            }
        });
    }

    private static void same(Check check, TreeSet<String> got, TreeSet<String> want) {
        List<String> more = new ArrayList<>(got);
        more.removeAll(want);
        List<String> fewer = new ArrayList<>(want);
        fewer.removeAll(got);
        check.due("members too many " + more, more.size(), 0);
        check.due("members missing " + fewer, fewer.size(), 0);
    }

    private static boolean isSeen(Member member) {
        return !Modifier.isPrivate(member.getModifiers());
    }

    private static TreeSet<String> seenMethods() {
        TreeSet<String> seen = new TreeSet<>();
        for (Method method : AuntsInTurn.class.getDeclaredMethods()) {
            if (isSeen(method)) {
                List<String> types = new ArrayList<>();
                for (Class<?> type : method.getParameterTypes()) {
                    types.add(type.getName());
                }
                String is = Modifier.isPublic(method.getModifiers()) ? "" : "not public ";
                seen.add(is + method.getReturnType() + " " + method.getName() + "(" + String.join(", ", types) + ")");
            }
        }
        return seen;
    }

    private static TreeSet<String> seenFields() {
        TreeSet<String> seen = new TreeSet<>();
        for (Field field : AuntsInTurn.class.getDeclaredFields()) {
            if (isSeen(field)) {
                seen.add(field.getName());
            }
        }
        return seen;
    }

    private static int seenConstructors() {
        int seen = 0;
        for (Constructor<?> constructor : AuntsInTurn.class.getDeclaredConstructors()) {
            seen += isSeen(constructor) && constructor.getParameterCount() == 0 ? 1 : 1000;
        }
        return seen;
    }

    private static void noPrivateNamesake(Check check) {
        List<String> names = new ArrayList<>();
        for (String method : METHODS) {
            names.add(method.substring(method.indexOf(' ') + 1, method.indexOf('(')));
        }
        List<Class<?>> classes = new ArrayList<>(List.of(AuntsInTurn.class.getDeclaredClasses()));
        classes.add(AuntsInTurn.class);
        for (Class<?> type : classes) {
            for (Method method : type.getDeclaredMethods()) {
                boolean namesake = !Modifier.isPublic(method.getModifiers()) && names.contains(method.getName());
                check.due(type + " " + method.getName(), namesake ? 1 : 0, 0);
            }
        }
    }

    private static void nestedAreHidden(Check check) {
        Class<?>[] nested = AuntsInTurn.class.getDeclaredClasses();
        check.due("a dozen classes", Math.max(12, nested.length + 1), 12);
        for (Class<?> type : nested) {
            int modifiers = type.getModifiers();
            boolean shown = Modifier.isPublic(modifiers) || Modifier.isProtected(modifiers);
            check.due(type + " shown", shown ? 1 : 0, 0);
            check.due(type + " not static", Modifier.isStatic(modifiers) ? 0 : 1, 0);
            int fields = 0;
            for (Field field : type.getDeclaredFields()) {
                fields += Modifier.isStatic(field.getModifiers()) ? 0 : 1;
            }
            check.due(type + " fields beyond twenty", Math.max(20, fields), 20);
        }
    }
}
