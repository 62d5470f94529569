import java.io.File;
import java.io.IOException;
import java.lang.reflect.Field;
import java.lang.reflect.Method;
import java.lang.reflect.Modifier;
import java.nio.charset.StandardCharsets;
import java.nio.file.Files;
import java.nio.file.Path;
import java.util.ArrayList;
import java.util.Comparator;
import java.util.List;
import java.util.Set;
import java.util.TreeSet;
import java.util.regex.Matcher;
import java.util.regex.Pattern;
import java.util.stream.Collectors;
import java.util.stream.Stream;

/**
 * Does what README.md says, word by word, in a folder of its own, and compares its tables with the
 * class. Only .ci/run is not followed from here: it runs this test.
 */
public final class ReadmeTest {
    private static final Path README = Path.of("README.md");
    private static final Path TESTS = Path.of("src/test/java");
    private static final Path SUITE = Path.of(".ci/run");
    private static final Pattern BLOCK = Pattern.compile("(?ms)^```([a-z]+)\n(.*?)^```$");
    private static final Pattern NAME = Pattern.compile("public final class (\\w+)");
    private static final Pattern CALL = Pattern.compile("(?m)^\\| `(\\w+)\\(([^)]*)\\)`( \\*)? \\|");
    private static final Pattern CONSTANT = Pattern.compile("(?m)^\\| `([A-Z_]+)` \\| (-\\d+) \\|");
    private static final Pattern TEST = Pattern.compile("(?m)^- `(\\w+Test)`: ");
    private static final Set<String> CHANGES = Set.of("addTable", "addReference", "setRule", "insert", "update",
            "delete", "perform", "restore");

    private final Check check = new Check();
    private final String readme;

    private ReadmeTest(String readme) {
        this.readme = readme;
    }

    public static void main(String[] args) throws IOException, InterruptedException, IllegalAccessException {
        ReadmeTest test = new ReadmeTest(Files.readString(README));
        test.calls();
        test.constants();
        test.tests();
        Path folder = Files.createTempDirectory("readme");
        try {
            test.follow(folder);
        } finally {
            remove(folder);
        }
        test.check.end();
    }

    private List<String> blocks(String kind) {
        List<String> blocks = new ArrayList<>();
        for (Matcher matcher = BLOCK.matcher(readme); matcher.find();) {
            if (matcher.group(1).equals(kind)) {
                blocks.add(matcher.group(2));
            }
        }
        return blocks;
    }

    private void calls() {
        Set<String> told = new TreeSet<>();
        for (Matcher matcher = CALL.matcher(readme); matcher.find();) {
            String words = matcher.group(2);
            int count = words.isEmpty() ? 0 : words.split(", ").length;
            told.add(matcher.group(1) + " with " + count);
            check.holds("the star of " + matcher.group(1),
                    (matcher.group(3) != null) == CHANGES.contains(matcher.group(1)));
        }
        Set<String> due = new TreeSet<>();
        for (Method method : SpreadingDeletes.class.getDeclaredMethods()) {
            if (Modifier.isPublic(method.getModifiers())) {
                due.add(method.getName() + " with " + method.getParameterCount());
            }
        }
        check.holds("the calls are " + told + ", due are " + due, told.equals(due));
    }

    private void constants() throws IllegalAccessException {
        Set<String> told = new TreeSet<>();
        for (Matcher matcher = CONSTANT.matcher(readme); matcher.find();) {
            told.add(matcher.group(1) + " = " + matcher.group(2));
        }
        Set<String> due = new TreeSet<>();
        for (Field field : SpreadingDeletes.class.getDeclaredFields()) {
            if (Modifier.isPublic(field.getModifiers())) {
                due.add(field.getName() + " = " + field.getInt(null));
            }
        }
        check.holds("the constants are " + told + ", due are " + due, told.equals(due));
    }

    private void tests() throws IOException {
        Set<String> told = TEST.matcher(readme).results().map(match -> match.group(1))
                .collect(Collectors.toCollection(TreeSet::new));
        Set<String> due = new TreeSet<>();
        try (Stream<Path> files = Files.list(TESTS)) {
            files.map(file -> file.getFileName().toString()).filter(name -> name.endsWith("Test.java"))
                    .forEach(name -> due.add(name.replace(".java", "")));
        }
        check.holds("the tests are " + told + ", due are " + due, told.equals(due));
        check.holds("the suite is named", readme.contains("    " + SUITE + "\n"));
        check.holds("the suite can be run", Files.isExecutable(SUITE));
    }

    private void follow(Path folder) throws IOException, InterruptedException {
        List<String> programs = blocks("java");
        List<String> commands = blocks("sh");
        List<String> printed = blocks("text");
        check.due("programs", programs.size(), 1);
        check.due("blocks of commands", commands.size(), 2);
        check.due("blocks of what is printed", printed.size(), 1);
        if (check.wrong() > 0) {
            return;
        }
        copy(Path.of("src"), folder.resolve("src"));
        Matcher name = NAME.matcher(programs.get(0));
        check.holds("the program has a name", name.find());
        check.holds("and its file is told", readme.contains("`" + name.group(1) + ".java`"));
        Files.writeString(folder.resolve(name.group(1) + ".java"), programs.get(0));
        String got = run(folder, commands.get(0));
        check.holds("the program printed\n" + got, got.equals(printed.get(0)));
        run(folder, commands.get(1));
    }

    private String run(Path folder, String commands) throws IOException, InterruptedException {
        Process process = new ProcessBuilder("bash", "-e", "-c", commands).directory(folder.toFile())
                .redirectErrorStream(true).start();
        process.getOutputStream().close();
        String printed = new String(process.getInputStream().readAllBytes(), StandardCharsets.UTF_8);
        int code = process.waitFor();
        check.holds("exit code " + code + " of\n" + commands + printed, code == 0);
        return printed;
    }

    private static void copy(Path from, Path to) throws IOException {
        try (Stream<Path> files = Files.walk(from)) {
            for (Path file : (Iterable<Path>) files::iterator) {
                Files.copy(file, to.resolve(from.relativize(file)));
            }
        }
    }

    private static void remove(Path folder) throws IOException {
        try (Stream<Path> files = Files.walk(folder)) {
            files.sorted(Comparator.reverseOrder()).map(Path::toFile).forEach(File::delete);
        }
    }
}
