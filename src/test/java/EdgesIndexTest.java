import java.lang.reflect.Method;
import java.util.ArrayList;
import java.util.List;
import java.util.Map;
import java.util.regex.Matcher;
import java.util.regex.Pattern;

/** Each place of the document that tells a boundary is quoted by a test of its own, and each quotation stands there. */
public final class EdgesIndexTest {
    private static final List<Class<?>> ALL = List.of(EdgesOfTerms1Test.class, EdgesOfTerms1ValleysTest.class,
        EdgesOfTerms1SaysTest.class, EdgesOfTerms2Test.class, EdgesOfTerms3Test.class, EdgesOfPromises1To10Test.class,
        EdgesOfPromises11To20Test.class, EdgesOfPromises21To30Test.class, EdgesOfPromises31To36Test.class);
    /** What tells a boundary, wherever it stands in the Terms and promises. */
    private static final Pattern TELLS = Pattern.compile("\\b(NONE|BAD|STATE|FULL|NO)\\b|-5|-6|-10|heard -1|\\d+ (\\.\\.|to) \\d+"
        + "|at most|at least|at first|modulo|of several|wrapping|not held|beyond|empty|without one|too early|first 20|or more"
        + "|12 without|lowest terms|if there are fewer|1 or 2 digits|no 0 ahead|one blank|fewest|from 0|above NERVE|AWAY or not"
        + "|is behind all|changes? nothing|as far as|none comes|not looked at|kept or not|ahead of all|\\bare none\\b");

    private static final Check check = new Check();

    public static void main(String[] args) {
        Map<String, String> parts = Doc.parts();
        check.due("tests of boundary cases", all().isEmpty() ? 1 : 0, 0);
        if (parts.isEmpty()) {
            System.out.println("no document to look into");
        }
        for (Edge edge : parts.isEmpty() ? List.<Edge>of() : all()) {
            String text = parts.getOrDefault(edge.of(), "");
            check.due(edge.of() + " says '" + edge.says() + "'", text.contains(edge.says()) ? 1 : 0, 1);
        }
        check.due("promises and terms", parts.isEmpty() ? 39 : parts.size(), 39);
        parts.forEach(EdgesIndexTest::isQuoted);
        check.end();
    }

    private static List<Edge> all() {
        List<Edge> edges = new ArrayList<>();
        for (Class<?> type : ALL) {
            for (Method test : Edges.tests(type)) {
                edges.add(test.getAnnotation(Edge.class));
            }
        }
        return edges;
    }

    private static void isQuoted(String part, String text) {
        boolean[] quoted = new boolean[text.length()];
        boolean any = false;
        for (Edge edge : all()) {
            for (int at = text.indexOf(edge.says()); edge.of().equals(part) && at >= 0; at = text.indexOf(edge.says(), at + 1)) {
                java.util.Arrays.fill(quoted, at, at + edge.says().length(), true);
                any = true;
            }
        }
        check.due(part + " has a test", any ? 1 : 0, 1);
        Matcher tells = TELLS.matcher(text);
        while (tells.find()) {
            boolean whole = true;
            for (int i = tells.start(); i < tells.end(); i++) {
                whole &= quoted[i];
            }
            String around = text.substring(Math.max(0, tells.start() - 40), Math.min(text.length(), tells.end() + 40));
            check.due(part + ": '" + tells.group() + "' in '.." + around + "..' has a test", whole ? 1 : 0, 1);
        }
    }
}
