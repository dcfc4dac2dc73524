import java.io.IOException;
import java.lang.reflect.Method;
import java.lang.reflect.Modifier;
import java.nio.file.Files;
import java.nio.file.Path;
import java.util.ArrayList;
import java.util.Comparator;
import java.util.List;
import java.util.Set;
import java.util.TreeSet;
import java.util.concurrent.TimeUnit;
import java.util.regex.Matcher;
import java.util.regex.Pattern;
import java.util.stream.Collectors;
import java.util.stream.Stream;

// README.md, followed word by word.
public final class ReadmeTest {
    private static final String CLASS = "src/main/java/BoxSpider.java";
    private static int wrong = 0;

    public static void main(String[] args) throws Exception {
        Path root = Path.of(args.length > 0 ? args[0] : ".");
        String page = Files.readString(root.resolve("README.md"));
        Path folder = Files.createTempDirectory("readme");
        try {
            exampleRuns(root, page, folder);
            oneTestRuns(root, page, folder);
        } finally {
            remove(folder);
        }
        everyCallIsNamed(page);
        everyTestIsNamed(root, page);
        answersAreSo(page);
        pathsAreThere(root, page);
        System.out.println(wrong == 0 ? "README.md is so" : wrong + " things in README.md are not so");
        if (wrong != 0) {
            System.exit(1);
        }
    }

    private static void holds(String what, boolean so) {
        if (!so) {
            wrong++;
            System.out.println("README.md: " + what);
        }
    }

    private static List<String> blocks(String page, String kind) {
        List<String> found = new ArrayList<>();
        Matcher block = Pattern.compile("(?s)```" + kind + "\n(.*?)```").matcher(page);
        while (block.find()) {
            found.add(block.group(1));
        }
        return found;
    }

    private static String block(String page, String kind, int i) {
        List<String> found = blocks(page, kind);
        holds("a block of " + kind + ", the " + i + "-th", i < found.size());
        return i < found.size() ? found.get(i) : "";
    }

    // ---- commands

    /** Copies what the commands use, so that nothing is left in the checkout. */
    private static void copy(Path root, Path folder, String file) throws IOException {
        Path target = folder.resolve(file);
        Files.createDirectories(target.getParent());
        Files.copy(root.resolve(file), target);
    }

    private static String run(String commands, Path folder) throws Exception {
        Path output = Files.createTempFile("readme", ".txt");
        Process sh = new ProcessBuilder("sh", "-e", "-c", commands).directory(folder.toFile())
            .redirectError(ProcessBuilder.Redirect.INHERIT).redirectOutput(output.toFile()).start();
        boolean ended = sh.waitFor(300, TimeUnit.SECONDS);
        String printed = Files.readString(output);
        Files.delete(output);
        if (!ended) {
            sh.destroyForcibly();
        }
        holds("a command failed: " + commands + printed, ended && sh.exitValue() == 0);
        return printed;
    }

    private static void exampleRuns(Path root, String page, Path folder) throws Exception {
        copy(root, folder, CLASS);
        Files.writeString(folder.resolve("Example.java"), block(page, "java", 0));
        String printed = run(block(page, "sh", 0), folder);
        holds("the example prints\n" + printed, printed.equals(block(page, "text", 0)));
    }

    private static void oneTestRuns(Path root, String page, Path folder) throws Exception {
        String commands = block(page, "sh", 2);
        for (String name : tests(root)) {
            copy(root, folder, "src/test/java/" + name + ".java");
        }
        String printed = run(commands, folder);
        holds("the test alone prints\n" + printed, printed.equals("both programs agree\n"));
    }

    private static void remove(Path folder) throws IOException {
        try (Stream<Path> inside = Files.walk(folder)) {
            for (Path path : inside.sorted(Comparator.reverseOrder()).collect(Collectors.toList())) {
                Files.delete(path);
            }
        }
    }

    // ---- names

    private static Set<String> tests(Path root) throws IOException {
        try (Stream<Path> files = Files.list(root.resolve("src/test/java"))) {
            return files.map(file -> file.getFileName().toString().replace(".java", ""))
                .collect(Collectors.toCollection(TreeSet::new));
        }
    }

    private static void everyTestIsNamed(Path root, String page) throws IOException {
        Set<String> named = new TreeSet<>();
        Matcher name = Pattern.compile("`(\\w+Test|Sentences|Boxes)`").matcher(page);
        while (name.find()) {
            named.add(name.group(1));
        }
        holds("the tests are " + tests(root), named.equals(tests(root)));
    }

    private static void everyCallIsNamed(String page) {
        for (Method m : BoxSpider.class.getDeclaredMethods()) {
            if (Modifier.isPublic(m.getModifiers())) {
                holds("nothing of " + m.getName(), page.contains("`" + m.getName() + "`"));
            }
        }
    }

    private static void pathsAreThere(Path root, String page) {
        Matcher path = Pattern.compile("(?m)`((?:\\.\\./|src/)[\\w./]+)`|^(\\.ci/run)$").matcher(page);
        int found = 0;
        while (path.find()) {
            String name = path.group(1) == null ? path.group(2) : path.group(1);
            holds("there is no " + name, Files.exists(root.resolve(name)));
            found++;
        }
        holds("the paths are told", found >= 6);
        holds(".ci/run can be run", Files.isExecutable(root.resolve(".ci/run")));
    }

    // ---- the table of answers

    private static void answersAreSo(String page) {
        row(page, "`NONE`, -1", BoxSpider.NONE, -1);
        row(page, "`BAD`, -2", BoxSpider.BAD, -2);
        row(page, "`NOT`, -3", BoxSpider.NOT, -3);
        row(page, "`FULL`, -4", BoxSpider.FULL, -4);
        BoxSpider b = new BoxSpider();
        row(page, "`NOT`, -3", b.undo(), -3);
        row(page, "-11 to -15", b.lose(0), -11);
        b.sheet(0, 1, 2);
        b.sheet(1, 2, 2);
        row(page, "-11 to -15", b.lay(0, 1, 2, 0), -12);
        row(page, "-11 to -15", b.lay(0, 2, 0, 0), -13);
        row(page, "-11 to -15", b.copy(0, 0, 1, 0, 1), -14);
        row(page, "-11 to -15", b.sheet(2, 0, -1), -15);
        row(page, "`count(8)` tells the latest", b.count(8), 5);
        row(page, "-10002, -10003", b.laidOut(1, 0), -10002);
        b.place(0, 0, 0, 30);
        row(page, "-10002, -10003", b.lies(0, 0, 0), -10003);
        row(page, "-2147483648", b.get(0, 1, 2), -2147483648);
        for (int n = 0; n < 40; n++) {
            b.type('e');
        }
        row(page, "the text of rolls has 40 bytes", b.type('e'), -4);
    }

    private static void row(String page, String words, int got, int want) {
        holds("no row of " + words, page.contains(words));
        holds(words + ": it is " + got, got == want);
    }
}
