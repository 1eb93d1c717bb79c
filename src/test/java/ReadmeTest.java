import java.io.ByteArrayOutputStream;
import java.io.IOException;
import java.io.PrintStream;
import java.net.URL;
import java.net.URLClassLoader;
import java.nio.file.Files;
import java.nio.file.Path;
import java.util.List;
import java.util.regex.Matcher;
import java.util.regex.Pattern;
import java.util.stream.Collectors;
import java.util.stream.Stream;
import javax.tools.JavaCompiler;
import javax.tools.ToolProvider;

/** README.md: its example prints what it says, and it names all that there is to use and to run. */
public final class ReadmeTest {
    private static final Path BUILD = Path.of("build/readme");

    private static int looked;
    private static int wrong;

    public static void main(String[] args) throws Exception {
        String page = Files.readString(Path.of("README.md"));
        String face = Files.readString(Path.of("../shared/DOC.md"));
        exampleHolds(page);
        callsAreNamed(page, face);
        refusalsAreNamed(page);
        testsAreNamed(page);
        filesAreThere(page);
        System.out.println(looked + " things of README.md, " + wrong + " not so");
        if (wrong != 0) {
            System.exit(1);
        }
    }

    private static void must(boolean so, String what) {
        looked++;
        if (!so) {
            wrong++;
            System.out.println("not so: " + what);
        }
    }

    private static String block(String page, String language, String behind) {
        int from = page.indexOf("```" + language + "\n", Math.max(0, page.indexOf(behind)));
        int begin = page.indexOf('\n', from) + 1;
        int end = page.indexOf("```", begin);
        boolean there = page.contains(behind) && from >= 0 && end >= 0;
        must(there, "behind \"" + behind + "\" there is a block of " + language);
        return there ? page.substring(begin, end) : "";
    }

    private static void exampleHolds(String page) throws Exception {
        String code = block(page, "java", "Save this as `Example.java`");
        String due = block(page, "text", "It prints:");
        Files.createDirectories(BUILD);
        Path file = BUILD.resolve("Example.java");
        Files.writeString(file, code);
        JavaCompiler compiler = ToolProvider.getSystemJavaCompiler();
        int failed = compiler.run(null, System.out, System.out, "-d", BUILD.toString(),
                "-cp", System.getProperty("java.class.path"), file.toString());
        must(failed == 0, "the example compiles");
        if (failed == 0) {
            List<String> got = printed().lines().toList();
            List<String> want = due.lines().toList();
            for (int i = 0; i < Math.max(got.size(), want.size()); i++) {
                String is = i < got.size() ? got.get(i) : "nothing";
                String said = i < want.size() ? want.get(i) : "nothing";
                must(is.equals(said), "the example prints " + is + ", said is " + said);
            }
        }
    }

    private static String printed() throws Exception {
        ByteArrayOutputStream bytes = new ByteArrayOutputStream();
        PrintStream out = System.out;
        try (URLClassLoader loader = new URLClassLoader(new URL[] {BUILD.toUri().toURL()});
                PrintStream caught = new PrintStream(bytes)) {
            System.setOut(caught);
            loader.loadClass("Example").getMethod("main", String[].class).invoke(null, (Object) new String[0]);
        } finally {
            System.setOut(out);
        }
        return bytes.toString();
    }

    /** With the names that the document's face gives their arguments. */
    private static void callsAreNamed(String page, String face) {
        Matcher call = Pattern.compile("public int (\\w+)\\(([^)]*)\\);").matcher(face);
        int calls = 0;
        while (call.find()) {
            String named = call.group(1) + "(" + call.group(2).replace("int ", "") + ")";
            must(page.contains("| `" + named + "` |"), "the table of calls has " + named);
            calls++;
        }
        must(calls == 30, "the document's face has 30 calls, not " + calls);
    }

    private static void refusalsAreNamed(String page) {
        must(page.contains("| " + ThreeRiddles.NONE + " | `NONE` |"), "NONE is told");
        must(page.contains("| " + ThreeRiddles.BAD + " | `BAD` |"), "BAD is told");
        must(page.contains("| " + ThreeRiddles.STATE + " | `STATE` |"), "STATE is told");
        must(page.contains("| " + ThreeRiddles.FULL + " | `FULL` |"), "FULL is told");
        String[] findings = {"NULL", "PLACE", "KIND", "SIZE", "STORE"};
        int[] answers = {Due.NULL, Due.PLACE, Due.KIND, Due.SIZE, Due.STORE};
        for (int i = 0; i < findings.length; i++) {
            String told = "| " + answers[i] + " | finding " + (i + 1) + ", " + findings[i] + " |";
            must(page.contains(told), findings[i] + " is told");
        }
    }

    private static void testsAreNamed(String page) throws IOException {
        must(page.contains("\n    .ci/run\n"), "it says how all tests are run");
        try (Stream<Path> files = Files.list(Path.of("src/test/java"))) {
            for (Path file : files.collect(Collectors.toList())) {
                String name = file.getFileName().toString().replace(".java", "");
                must(page.contains("`" + name + "`"), name + " is named");
            }
        }
    }

    private static void filesAreThere(String page) {
        Matcher path = Pattern.compile("(?:\\.\\./shared|src|\\.ci|NOTES)[\\w./]*\\w").matcher(page);
        while (path.find()) {
            must(Files.exists(Path.of(path.group())), path.group() + " is there");
        }
    }
}
