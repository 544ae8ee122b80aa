import java.io.File;
import java.io.IOException;
import java.lang.reflect.Method;
import java.lang.reflect.Modifier;
import java.nio.file.Files;
import java.nio.file.Path;
import java.util.ArrayList;
import java.util.Comparator;
import java.util.List;
import java.util.TreeSet;
import java.util.regex.Matcher;
import java.util.regex.Pattern;
import java.util.stream.Stream;

/** What README.md says is so when one does it, in a copy of the project beside the same ../shared. */
public final class ReadmeTest {
    private static final Path README = Path.of("README.md"), TESTS = Path.of("src/test/java");
    private static final Pattern BLOCK = Pattern.compile("```(\\w+)\n(.*?)```\n", Pattern.DOTALL);
    private static final Check check = new Check();

    /** A block of the page, by the word behind its first fence. */
    private record Block(String word, String text) {
    }

    public static void main(String[] args) throws IOException, InterruptedException {
        String page = Files.readString(README);
        namesEachCall(page);
        namesEachTestAndNoOther(page);
        Path above = Files.createTempDirectory("readme");
        try {
            does(blocks(page), copy(above));
        } finally {
            delete(above);
        }
        check.end();
    }

    private static List<Block> blocks(String page) {
        List<Block> blocks = new ArrayList<>();
        Matcher finds = BLOCK.matcher(page);
        while (finds.find()) {
            blocks.add(new Block(finds.group(1), finds.group(2)));
        }
        return blocks;
    }

    private static void namesEachCall(String page) {
        for (Method method : AuntsInTurn.class.getDeclaredMethods()) {
            if (Modifier.isPublic(method.getModifiers())) {
                check.due("page names " + method.getName(), page.contains("`" + method.getName() + "`") ? 1 : 0, 1);
            }
        }
    }

    private static void namesEachTestAndNoOther(String page) throws IOException {
        TreeSet<String> named = new TreeSet<>();
        Matcher finds = Pattern.compile("`(\\w+Test)`").matcher(page);
        while (finds.find()) {
            named.add(finds.group(1));
        }
        TreeSet<String> there = new TreeSet<>();
        try (Stream<Path> files = Files.list(TESTS)) {
            files.map(file -> file.getFileName().toString()).filter(name -> name.endsWith("Test.java"))
                .forEach(name -> there.add(name.substring(0, name.length() - ".java".length())));
        }
        check.due("page names " + named + ", there are " + there, named.equals(there) ? 1 : 0, 1);
    }

    private static Path copy(Path above) throws IOException {
        Path project = above.resolve("main");
        try (Stream<Path> files = Files.walk(Path.of("src"))) {
            for (Path file : files.filter(Files::isRegularFile).toList()) {
                Files.createDirectories(project.resolve(file).getParent());
                Files.copy(file, project.resolve(file));
            }
        }
        Path shared = Path.of("../shared");
        if (Files.exists(shared)) {
            Files.createSymbolicLink(above.resolve("shared"), shared.toRealPath());
        }
        return project;
    }

    private static void delete(Path above) throws IOException {
        try (Stream<Path> files = Files.walk(above)) {
            files.sorted(Comparator.reverseOrder()).map(Path::toFile).forEach(File::delete);
        }
    }

    /** Each block in turn: a program is saved, commands are given, a text is what the latest of them printed. */
    private static void does(List<Block> blocks, Path project) throws IOException, InterruptedException {
        String printed = "";
        int given = 0;
        for (Block block : blocks) {
            if (block.word().equals("java")) {
                Matcher name = Pattern.compile("public final class (\\w+)").matcher(block.text());
                Files.writeString(project.resolve((name.find() ? name.group(1) : "Nameless") + ".java"), block.text());
            } else if (block.word().equals("text")) {
                check.due("'" + printed + "' is '" + block.text() + "'", printed.equals(block.text()) ? 1 : 0, 1);
            } else if (block.text().trim().equals(".ci/run")) {
                // it runs this test, too
                check.due(".ci/run can be run", Files.isExecutable(Path.of(".ci/run")) ? 1 : 0, 1);
            } else {
                printed = give(block.text(), project);
                given++;
            }
        }
        check.due("commands given", given, 2);
    }

    private static String give(String commands, Path project) throws IOException, InterruptedException {
        Process process = new ProcessBuilder("sh", "-e", "-c", commands).directory(project.toFile()).redirectErrorStream(true).start();
        process.getOutputStream().close();
        String printed = new String(process.getInputStream().readAllBytes());
        check.due("commands '" + commands + "', which printed '" + printed + "', end", process.waitFor(), 0);
        return printed;
    }
}
