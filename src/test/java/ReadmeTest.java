import java.io.IOException;
import java.lang.reflect.Method;
import java.nio.file.Files;
import java.nio.file.Path;
import java.nio.file.attribute.PosixFilePermission;
import java.util.ArrayList;
import java.util.Comparator;
import java.util.List;
import java.util.regex.Matcher;
import java.util.regex.Pattern;
import java.util.stream.Stream;

/** README.md tells the truth: its example, run as it says, prints what it says, and all it names is there. */
public final class ReadmeTest {
    private static final String PROGRAM = "src/main/java/PathOram.java";
    private static final Pattern PRINTS = Pattern.compile("System\\.out\\.println\\(.*// prints (-?\\d+)\\b");
    private static final Pattern TABLE_CALL = Pattern.compile("^\\| `(\\w+)\\(([^)]*)\\)` \\|", Pattern.MULTILINE);
    private static final Pattern NAMED_FILE = Pattern.compile("`((?:src|\\.\\./shared)/[\\w./]+)`");

    private static int wrong = 0;

    private static void hold(boolean holds, String what) {
        if (!holds) {
            wrong++;
            System.out.println("does not hold: " + what);
        }
    }

    private static List<String> blocks(String readme, String language) {
        Matcher matcher = Pattern.compile("^```" + language + "\\n(.*?)^```$", Pattern.MULTILINE | Pattern.DOTALL)
            .matcher(readme);
        List<String> found = new ArrayList<>();
        while (matcher.find()) {
            found.add(matcher.group(1));
        }
        return found;
    }

    /** What the example says that it prints; every line that prints must say it. */
    private static List<String> saidToPrint(String example) {
        List<String> said = new ArrayList<>();
        for (String line : example.split("\n")) {
            if (line.contains("System.out")) {
                Matcher matcher = PRINTS.matcher(line);
                boolean says = matcher.find();
                hold(says, "the example says what this line prints: " + line.strip());
                said.add(says ? matcher.group(1) : "?");
            }
        }
        return said;
    }

    private static void checkExample(String example, String commands) throws IOException, InterruptedException {
        Path place = Files.createTempDirectory("readme");
        try {
            Path program = place.resolve(PROGRAM);
            Files.createDirectories(program.getParent());
            Files.copy(Path.of(PROGRAM), program);
            Files.writeString(place.resolve("Example.java"), example);
            Process run = new ProcessBuilder("sh", "-e", "-c", commands)
                .directory(place.toFile()).redirectError(ProcessBuilder.Redirect.INHERIT).start();
            List<String> printed = new String(run.getInputStream().readAllBytes()).lines().toList();
            hold(run.waitFor() == 0, "the example compiles and runs");
            List<String> said = saidToPrint(example);
            hold(!said.isEmpty(), "the example prints something");
            hold(printed.equals(said), "the example prints " + said + "; it printed " + printed);
        } finally {
            delete(place);
        }
    }

    private static void delete(Path place) throws IOException {
        try (Stream<Path> all = Files.walk(place)) {
            all.sorted(Comparator.reverseOrder()).forEach(path -> path.toFile().delete());
        }
    }

    private static void checkTable(String readme, String example) {
        List<String> told = new ArrayList<>();
        Matcher matcher = TABLE_CALL.matcher(readme);
        while (matcher.find()) {
            int count = matcher.group(2).isEmpty() ? 0 : matcher.group(2).split(",").length;
            told.add(matcher.group(1) + "/" + count);
        }
        List<String> there = new ArrayList<>();
        for (Method method : PathOram.class.getMethods()) {
            if (method.getDeclaringClass() == PathOram.class) {
                there.add(method.getName() + "/" + method.getParameterCount());
                hold(example.contains("oram." + method.getName() + "("), "the example uses " + method.getName());
            }
        }
        told.sort(null);
        there.sort(null);
        hold(told.equals(there), "the table has the methods " + there + "; it has " + told);
    }

    private static void checkNamedFiles(String readme) throws IOException {
        Matcher matcher = NAMED_FILE.matcher(readme);
        while (matcher.find()) {
            hold(Files.exists(Path.of(matcher.group(1))), matcher.group(1) + " is there");
        }
        try (Stream<Path> files = Files.walk(Path.of("src"))) {
            for (Path file : files.filter(Files::isRegularFile).toList()) {
                hold(readme.contains("`" + file + "`"), "README.md names " + file);
            }
        }
    }

    // CI calls .ci/run on a clean checkout: what is left to see here is that README.md names just that.
    private static void checkWayToRunTests(String command) throws IOException {
        hold(command.equals(".ci/run\n"), "the tests are run with .ci/run; README.md says " + command);
        boolean executable = Files.getPosixFilePermissions(Path.of(".ci/run")).contains(PosixFilePermission.OWNER_EXECUTE);
        hold(executable, ".ci/run is executable");
    }

    public static void main(String[] args) throws IOException, InterruptedException {
        String readme = Files.readString(Path.of("README.md"));
        List<String> programs = blocks(readme, "java");
        List<String> commands = blocks(readme, "sh");
        hold(programs.size() == 1, "README.md has one example; it has " + programs.size());
        hold(commands.size() == 2, "README.md tells how to run the example and the tests");
        if (wrong == 0) {
            checkExample(programs.get(0), commands.get(0));
            checkTable(readme, programs.get(0));
            checkWayToRunTests(commands.get(1));
        }
        checkNamedFiles(readme);
        System.out.println(wrong == 0 ? "README.md is as due" : wrong + " things in README.md do not hold");
        if (wrong != 0) {
            System.exit(1);
        }
    }
}
