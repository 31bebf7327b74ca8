import java.io.ByteArrayOutputStream;
import java.io.IOException;
import java.io.PrintStream;
import java.net.URL;
import java.net.URLClassLoader;
import java.nio.file.Files;
import java.nio.file.Path;
import java.util.ArrayList;
import java.util.List;
import java.util.Set;
import java.util.TreeSet;
import java.util.regex.Matcher;
import java.util.regex.Pattern;
import java.util.stream.Stream;
import javax.tools.JavaCompiler;
import javax.tools.ToolProvider;

/** What README.md says is so: its example compiles and answers as told, its lists are whole. */
public final class ReadmeTest {
    private static final Path PROGRAM = Path.of("src/main/java/WetWalls.java");
    private static final Path TESTS = Path.of("src/test/java");

    private static int wrong = 0;

    public static void main(String[] args) throws Exception {
        String readme = Files.readString(Path.of("README.md"));
        checkExample(exampleIn(readme));
        checkCalls(readme);
        checkRefusals(readme);
        checkConstants(readme);
        checkTests(readme);
        checkPaths(readme);
        System.out.println(wrong == 0 ? "README.md says what is so" : wrong + " faults in README.md");
        System.exit(wrong == 0 ? 0 : 1);
    }

    private static void fault(String what) {
        wrong++;
        System.out.println(what);
    }

    private static void due(String what, Object got, Object want) {
        if (!got.equals(want)) {
            fault(what + ": is " + got + ", due is " + want);
        }
    }

    private static List<String> allFound(String pattern, String text) {
        List<String> all = new ArrayList<>();
        Matcher found = Pattern.compile(pattern).matcher(text);
        while (found.find()) {
            all.add(found.group(1));
        }
        return all;
    }

    // ---- the example

    private static String exampleIn(String readme) {
        List<String> blocks = allFound("(?s)```java\n(.*?)```", readme);
        due("examples in README.md", blocks.size(), 1);
        return blocks.isEmpty() ? "" : blocks.get(0);
    }

    private static void checkExample(String example) throws Exception {
        List<String> told = allFound("println\\(.*\\);\\s*// (-?\\d+): ", example);
        due("answers told by the example", told.size(), allFound("(println)", example).size());
        due("the example has answers", told.isEmpty(), false);
        Path folder = Files.createDirectories(Path.of("build/readme"));
        Path file = folder.resolve("Example.java");
        Files.writeString(file, example);
        if (compiles(file, folder)) {
            due("what the example prints", printedBy(folder), told);
        } else {
            fault("the example does not compile");
        }
        Set<String> used = new TreeSet<>(allFound("x\\.(\\w+)\\(", example));
        Set<String> spared = new TreeSet<>(List.of("clear", "digest", "fair", "forget"));
        used.addAll(spared);
        due("calls of the example, and those that need none", used, new TreeSet<>(calls().stream()
                .map(call -> call.substring(0, call.indexOf('('))).toList()));
    }

    private static boolean compiles(Path file, Path folder) throws IOException {
        JavaCompiler compiler = ToolProvider.getSystemJavaCompiler();
        return compiler != null && compiler.run(null, null, null, "--release", "17", "-d", folder.toString(),
                PROGRAM.toString(), file.toString()) == 0;
    }

    private static List<String> printedBy(Path folder) throws Exception {
        ByteArrayOutputStream bytes = new ByteArrayOutputStream();
        PrintStream before = System.out;
        URL[] places = {folder.toUri().toURL()};
        try (URLClassLoader loader = new URLClassLoader(places, ClassLoader.getPlatformClassLoader())) {
            System.setOut(new PrintStream(bytes, true));
            loader.loadClass("Example").getMethod("main", String[].class).invoke(null, (Object) new String[0]);
        } finally {
            System.setOut(before);
        }
        return bytes.toString().lines().toList();
    }

    // ---- the table of calls

    /** The public calls, as the class writes them, without their types. */
    private static List<String> calls() throws IOException {
        String pattern = "(?m)^    public (?:int|long) (\\w+\\([^)]*\\)) \\{";
        List<String> all = new ArrayList<>();
        for (String call : allFound(pattern, Files.readString(PROGRAM))) {
            all.add(call.replaceAll("\\bint ", ""));
        }
        return all;
    }

    private static void checkCalls(String readme) throws IOException {
        due("calls in the table", allFound("(?m)^\\| `([^`]*)` \\|", readme), calls());
    }

    private static String refusalsTold(String readme, String call) {
        List<String> told = allFound("(?m)^\\| `" + call + "\\([^`]*` \\|[^|]*\\|([^|]*)\\|", readme);
        return told.isEmpty() ? "no row" : told.get(0).trim();
    }

    private static String named(long answer) {
        if (answer == WetWalls.UNKNOWN || answer == WetWalls.OUTSIDE || answer == WetWalls.STATE || answer == WetWalls.FULL) {
            return List.of("FULL", "STATE", "OUTSIDE", "UNKNOWN").get((int) answer - WetWalls.FULL);
        }
        return answer == -1000000001 ? "OUTSIDE as " + answer
                : answer == -10101 ? "UNKNOWN as " + answer
                : answer == -10103 ? "STATE as " + answer : "no refusal: " + answer;
    }

    private static void dueRefusals(String readme, String call, long... answers) {
        List<String> names = new ArrayList<>();
        for (long answer : answers) {
            names.add(named(answer));
        }
        due("refusals told of " + call, refusalsTold(readme, call), String.join(", ", names));
    }

    /** Each call is made so that more and more of it is right; what it then answers is to stand in the table. */
    private static void checkRefusals(String readme) {
        WetWalls none = new WetWalls();
        WetWalls full = Check.full();
        WetWalls hours = new WetWalls();
        hours.hour(0, 0, 0, 0, 0);
        dueRefusals(readme, "layer", full.layer(0, 1, 1, 0), full.layer(1, 1, 1, 0));
        dueRefusals(readme, "corner", full.corner(3, 0, -1), full.corner(0, 0, -1));
        dueRefusals(readme, "water", full.water(6, -1), full.water(0, -1));
        dueRefusals(readme, "about", full.about(6, 9), full.about(0, 9));
        dueRefusals(readme, "hour", full.hour(-1, 0, 0, 0, 0), full.hour(0, 0, 0, 0, 0));
        dueRefusals(readme, "share", full.share(11));
        dueRefusals(readme, "pass", none.pass(0), none.pass(1));
        dueRefusals(readme, "steady", none.steady(0), none.steady(1));
        dueRefusals(readme, "sum", none.sum(5));
        dueRefusals(readme, "pressure", none.pressure(0, 9), hours.pressure(0, 9), full.pressure(0, 9));
        due("refusals told of warmth", refusalsTold(readme, "warmth"), "as `pressure`");
        due("refusals of warmth", List.of(none.warmth(0, 9), hours.warmth(0, 9), full.warmth(0, 9)),
                List.of(none.pressure(0, 9), hours.pressure(0, 9), full.pressure(0, 9)));
        dueRefusals(readme, "excess", none.excess(0, 9), hours.excess(0, 9), full.excess(0, 9));
        dueRefusals(readme, "best", none.best(0), hours.best(0));
        dueRefusals(readme, "placed", none.placed(0, 9), hours.placed(0, 9));
        dueRefusals(readme, "arrange", none.arrange(0), hours.arrange(0));
        dueRefusals(readme, "read", full.read(6, 0, 0, 0), full.read(0, 0, 0, 0), full.read(0, 1, 0, 0));
        dueRefusals(readme, "fits", none.fits());
        dueRefusals(readme, "count", none.count(7));
        for (String call : List.of("clear", "fair", "forget", "digest")) {
            dueRefusals(readme, call);
        }
    }

    private static void checkConstants(String readme) {
        String told = "UNKNOWN is " + WetWalls.UNKNOWN + ", OUTSIDE " + WetWalls.OUTSIDE + ", STATE " + WetWalls.STATE
                + ", FULL " + WetWalls.FULL + "; NONE, " + WetWalls.NONE + ",";
        due("constants are told: " + told, readme.contains(told), true);
    }

    // ---- the tests

    private static void checkTests(String readme) throws IOException {
        Set<String> there = new TreeSet<>();
        try (Stream<Path> files = Files.list(TESTS)) {
            files.forEach(file -> there.add(file.getFileName().toString().replace(".java", "")));
        }
        due("tests that are named", new TreeSet<>(allFound("`(\\w+Test)`", readme)), there);
        due(".ci/run can be run", Files.isExecutable(Path.of(".ci/run")), true);
    }

    private static void checkPaths(String readme) {
        for (String path : allFound("`((?:\\.\\./|src/)[\\w./]+)`", readme)) {
            due("there is " + path, Files.exists(Path.of(path)), true);
        }
    }
}
