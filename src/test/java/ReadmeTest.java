import java.io.IOException;
import java.lang.reflect.Method;
import java.nio.file.Files;
import java.nio.file.Path;
import java.nio.file.attribute.PosixFilePermission;
import java.util.ArrayList;
import java.util.Arrays;
import java.util.Comparator;
import java.util.List;
import java.util.Map;
import java.util.Set;
import java.util.TreeMap;
import java.util.TreeSet;
import java.util.regex.Matcher;
import java.util.regex.Pattern;
import java.util.stream.Stream;

/** README.md tells the truth: its example, run as it says, prints what it says, and all it names is there. */
public final class ReadmeTest {
    private static final String PROGRAM = "src/main/java/PathOram.java";
    private static final Pattern PRINTS = Pattern.compile("System\\.out\\.println\\(.*// prints (-?\\d+)\\b");
    // A row of the table: a method's name, its arguments, and the answer of a refused call or "never".
    private static final Pattern ROW = Pattern.compile("^\\| `(\\w+)\\(([^)]*)\\)` \\|.*\\| (-?\\d+|never)\\b[^|]*\\|$",
        Pattern.MULTILINE);
    private static final Pattern NAMED_FILE = Pattern.compile("`((?:src|\\.\\./shared)/[\\w./]+)`");

    private static final Set<String> NO_ACCESS = Set.of("stir", "audit", "touched");

    private static int wrong = 0;

    private static void hold(boolean holds, String what) {
        if (!holds) {
            wrong++;
            System.out.println("does not hold: " + what);
        }
    }

    private static List<String> blocks(String readme, String language) {
        Matcher matcher = Pattern.compile("^```" + language + "\\n(.*?)^```$", Pattern.MULTILINE | Pattern.DOTALL)
            .matcher(readme);
        List<String> found = new ArrayList<>();
        while (matcher.find()) {
            found.add(matcher.group(1));
        }
        return found;
    }

    /** What the example says that it prints; every line that prints must say it. */
    private static List<String> saidToPrint(String example) {
        List<String> said = new ArrayList<>();
        for (String line : example.split("\n")) {
            if (line.contains("System.out")) {
                Matcher matcher = PRINTS.matcher(line);
                boolean says = matcher.find();
                hold(says, "the example says what this line prints: " + line.strip());
                said.add(says ? matcher.group(1) : "?");
            }
        }
        return said;
    }

    private static void checkExample(String example, String commands) throws IOException, InterruptedException {
        Path place = Files.createTempDirectory("readme");
        try {
            Path program = place.resolve(PROGRAM);
            Files.createDirectories(program.getParent());
            Files.copy(Path.of(PROGRAM), program);
            Files.writeString(place.resolve("Example.java"), example);
            Process run = new ProcessBuilder("sh", "-e", "-c", commands)
                .directory(place.toFile()).redirectError(ProcessBuilder.Redirect.INHERIT).start();
            List<String> printed = new String(run.getInputStream().readAllBytes()).lines().toList();
            hold(run.waitFor() == 0, "the example compiles and runs");
            List<String> said = saidToPrint(example);
            hold(!said.isEmpty(), "the example prints something");
            hold(printed.equals(said), "the example prints " + said + "; it printed " + printed);
        } finally {
            delete(place);
        }
    }

    private static void delete(Path place) throws IOException {
        try (Stream<Path> all = Files.walk(place)) {
            all.sorted(Comparator.reverseOrder()).forEach(path -> path.toFile().delete());
        }
    }

    private static List<Method> openMethods() {
        List<Method> methods = new ArrayList<>(List.of(PathOram.class.getMethods()));
        methods.removeIf(method -> method.getDeclaringClass() != PathOram.class);
        return methods;
    }

    private static void checkTable(String readme, String example) throws ReflectiveOperationException {
        Map<String, String> refusals = new TreeMap<>();
        Matcher row = ROW.matcher(readme);
        while (row.find()) {
            int count = row.group(2).isEmpty() ? 0 : row.group(2).split(",").length;
            refusals.put(row.group(1) + "/" + count, row.group(3));
        }
        Set<String> methods = new TreeSet<>();
        for (Method method : openMethods()) {
            String name = method.getName() + "/" + method.getParameterCount();
            methods.add(name);
            checkRefusal(method, refusals.get(name));
            hold(example.contains("oram." + method.getName() + "("), "the example uses " + method.getName());
        }
        hold(refusals.keySet().equals(methods), "the table has " + methods + "; it has " + refusals.keySet());
    }

    /** With -1 for every argument, each call that can be refused is; touched() tells whether it was. */
    private static void checkRefusal(Method method, String refusal) throws ReflectiveOperationException {
        Object[] arguments = new Object[method.getParameterCount()];
        Arrays.fill(arguments, -1);
        PathOram oram = new PathOram(1);
        String answer = String.valueOf(method.invoke(oram, arguments));
        boolean accessed = oram.touched() != 0;
        String name = method.getName();
        if ("never".equals(refusal)) {
            hold(accessed || NO_ACCESS.contains(name), name + " is never refused");
        } else {
            boolean refused = !accessed && answer.equals(refusal);
            hold(refused, name + " answers " + refusal + " if refused; it answers " + answer);
        }
    }

    private static void checkNamedFiles(String readme) throws IOException {
        Matcher matcher = NAMED_FILE.matcher(readme);
        while (matcher.find()) {
            hold(Files.exists(Path.of(matcher.group(1))), matcher.group(1) + " is there");
        }
        try (Stream<Path> files = Files.walk(Path.of("src"))) {
            for (Path file : files.filter(Files::isRegularFile).toList()) {
                hold(readme.contains("`" + file + "`"), "README.md names " + file);
            }
        }
    }

    // CI calls .ci/run on a clean checkout: what is left to see here is that README.md names just that.
    private static void checkWayToRunTests(String command) throws IOException {
        hold(command.equals(".ci/run\n"), "the tests are run with .ci/run; README.md says " + command);
        Set<PosixFilePermission> permissions = Files.getPosixFilePermissions(Path.of(".ci/run"));
        hold(permissions.contains(PosixFilePermission.OWNER_EXECUTE), ".ci/run is executable");
    }

    public static void main(String[] args) throws Exception {
        String readme = Files.readString(Path.of("README.md"));
        List<String> programs = blocks(readme, "java");
        List<String> commands = blocks(readme, "sh");
        hold(programs.size() == 1, "README.md has one example; it has " + programs.size());
        hold(commands.size() == 2, "README.md tells how to run the example and the tests");
        if (wrong == 0) {
            checkExample(programs.get(0), commands.get(0));
            checkTable(readme, programs.get(0));
            checkWayToRunTests(commands.get(1));
        }
        checkNamedFiles(readme);
        System.out.println(wrong == 0 ? "README.md is as due" : wrong + " things in README.md do not hold");
        if (wrong != 0) {
            System.exit(1);
        }
    }
}
