import java.lang.reflect.Method;
import java.util.ArrayList;
import java.util.Arrays;
import java.util.List;
import java.util.Map;
import java.util.regex.Matcher;
import java.util.regex.Pattern;

/**
 * Each word of the document that says what the class does is quoted by a test, each place that tells a boundary by a
 * test of that boundary, and each quotation stands in the document.
 */
public final class EdgesIndexTest {
    private static final List<Class<?>> BOUNDARIES = List.of(EdgesOfTerms1Test.class, EdgesOfTerms1ValleysTest.class,
        EdgesOfTerms1SaysTest.class, EdgesOfTerms2Test.class, EdgesOfTerms3Test.class, EdgesOfPromises1To10Test.class,
        EdgesOfPromises11To20Test.class, EdgesOfPromises21To30Test.class, EdgesOfPromises31To36Test.class);
    private static final List<Class<?>> SENTENCES = List.of(SentencesTest.class);
    /** What tells a boundary, wherever it stands in the Terms and promises. */
    private static final Pattern TELLS = Pattern.compile("\\b(NONE|BAD|STATE|FULL|NO)\\b|-5|-6|-10|heard -1|\\d+ (\\.\\.|to) \\d+"
        + "|at most|at least|at first|modulo|of several|wrapping|not held|beyond|empty|without one|too early|first 20|or more"
        + "|12 without|lowest terms|if there are fewer|1 or 2 digits|no 0 ahead|one blank|fewest|from 0|above NERVE|AWAY or not"
        + "|is behind all|changes? nothing|as far as|none comes|not looked at|kept or not|ahead of all|\\bare none\\b");
    /** A call's line ahead of what is promised of it: FaceTest looks at these. */
    private static final Pattern CALL = Pattern.compile("^`[^`]*`: ");
    private static final Pattern WORD = Pattern.compile("[^\\s.,;:]+");
    /** 'What it is', three parts of the Terms, 36 promises. */
    private static final int PARTS = 40;

    private static final Check check = new Check();

    public static void main(String[] args) {
        Map<String, String> parts = Doc.parts();
        List<Edge> boundaries = of(BOUNDARIES);
        List<Edge> all = of(SENTENCES);
        all.addAll(boundaries);
        check.due("tests of boundary cases", boundaries.isEmpty() ? 1 : 0, 0);
        if (parts.isEmpty()) {
            System.out.println("no document to look into");
        }
        for (Edge edge : parts.isEmpty() ? List.<Edge>of() : all) {
            String text = parts.getOrDefault(edge.of(), "");
            check.due(edge.of() + " says '" + edge.says() + "'", text.contains(edge.says()) ? 1 : 0, 1);
        }
        check.due("parts", parts.isEmpty() ? PARTS : parts.size(), PARTS);
        parts.forEach((part, text) -> {
            if (!part.equals("What it is")) {
                areQuoted(part, text, boundaries, TELLS);
            }
            areQuoted(part, CALL.matcher(text).replaceFirst(""), all, WORD);
        });
        check.end();
    }

    private static List<Edge> of(List<Class<?>> types) {
        List<Edge> edges = new ArrayList<>();
        for (Class<?> type : types) {
            for (Method test : Edges.tests(type)) {
                edges.add(test.getAnnotation(Edge.class));
            }
        }
        return edges;
    }

    /** What of the text the pattern finds stands in quotations of the tests, each find whole. */
    private static void areQuoted(String part, String text, List<Edge> tests, Pattern pattern) {
        boolean[] quoted = new boolean[text.length()];
        boolean any = false;
        for (Edge edge : tests) {
            for (int at = text.indexOf(edge.says()); edge.of().equals(part) && at >= 0; at = text.indexOf(edge.says(), at + 1)) {
                Arrays.fill(quoted, at, at + edge.says().length(), true);
                any = true;
            }
        }
        check.due(part + " has a test", any ? 1 : 0, 1);
        Matcher finds = pattern.matcher(text);
        while (finds.find()) {
            boolean whole = true;
            for (int i = finds.start(); i < finds.end(); i++) {
                whole &= quoted[i];
            }
            String around = text.substring(Math.max(0, finds.start() - 40), Math.min(text.length(), finds.end() + 40));
            check.due(part + ": '" + finds.group() + "' in '.." + around + "..' has a test", whole ? 1 : 0, 1);
        }
    }
}
