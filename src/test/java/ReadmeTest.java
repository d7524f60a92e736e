import java.io.IOException;
import java.lang.reflect.Method;
import java.lang.reflect.Modifier;
import java.net.URL;
import java.net.URLClassLoader;
import java.nio.file.Files;
import java.nio.file.Path;
import java.util.ArrayList;
import java.util.List;
import java.util.Set;
import java.util.TreeSet;
import java.util.regex.Matcher;
import java.util.regex.Pattern;
import java.util.stream.Stream;
import javax.tools.ToolProvider;

/** What README.md says holds: its calls answer what stands behind them, its commands run, its table has every test. */
public final class ReadmeTest {
    private static final Due DUE = new Due("ReadmeTest");
    private static final Pattern CALL = Pattern.compile("(x\\.(\\w+)\\((.*)\\)); +// (.*)");
    private static final Pattern ANSWER = Pattern.compile("(-?\\d+)(?:: (.*))?");

    /** Calls that the page tells a text of. */
    private static final Set<String> READ = Set.of("out", "lines");

    private record Told(String call, String name, long answer, String words) {
    }

    private static final List<Told> TOLD = new ArrayList<>();

    public static void main(String[] args) throws Exception {
        String page = Files.readString(Path.of("README.md"));
        calls(blocks(page, "java"));
        commands(blocks(page, "sh"));
        table(page);
        paths(page);
        DUE.close();
    }

    private static List<String> blocks(String page, String language) {
        List<String> blocks = new ArrayList<>();
        Matcher block = Pattern.compile("(?ms)^```" + language + "\n(.*?)^```$").matcher(page);
        while (block.find()) {
            blocks.add(block.group(1));
        }
        DUE.holds("the page has blocks of " + language, !blocks.isEmpty());
        return blocks;
    }

    // ---- calls

    /** What the program that the page becomes needs to read texts: the answer, then the signs, LINES with 10 between. */
    private static final String READERS = """
        static long[] out(GalleyMarks x, int law) {
            long[] row = new long[1 + Math.max(0, x.out(law))];
            row[0] = x.out(law);
            for (int i = 1; i < row.length; i++) {
                row[i] = x.reads(law, i - 1);
            }
            return row;
        }
        static long[] lines(GalleyMarks x, int what, int width) {
            java.util.List<Long> row = new java.util.ArrayList<>();
            row.add((long) x.lines(what, width));
            for (int k = 0; k < x.lines(what, width); k++) {
                int start = x.line(what, width, k, 0);
                for (int i = start; i < start + x.line(what, width, k, 1); i++) {
                    row.add((long) (what < 2 ? x.at(what, i) : x.reads(what - 2, i)));
                }
                row.add(10L);
            }
            return row.stream().mapToLong(Long::longValue).toArray();
        }
        """;

    /** The page's blocks, one behind the other, become one program; blocks of helpers become its methods. */
    private static void calls(List<String> blocks) throws Exception {
        StringBuilder methods = new StringBuilder(READERS);
        StringBuilder body = new StringBuilder();
        for (String block : blocks) {
            if (block.startsWith("static ")) {
                methods.append(block);
                continue;
            }
            for (String line : block.split("\n")) {
                body.append(asked(line)).append('\n');
            }
        }
        everyCallIsShown();
        long[][] answers = run("public final class ReadmePage {\n" + methods + "public static long[][] answers() {\n"
            + "long[][] answers = new long[" + TOLD.size() + "][];\n" + body + "return answers;\n}\n}\n");
        for (int i = 0; i < TOLD.size(); i++) {
            DUE.due("README.md: " + TOLD.get(i).call, answers[i][0], TOLD.get(i).answer);
            words(TOLD.get(i), answers[i]);
        }
    }

    /** A line of the program; a call of the object must say what it answers. */
    private static String asked(String line) {
        Matcher call = CALL.matcher(line);
        if (!call.matches()) {
            DUE.holds("says what it answers: " + line, !line.startsWith("x."));
            return line;
        }
        Matcher answer = ANSWER.matcher(call.group(4));
        if (!answer.matches()) {
            DUE.holds("begins with the answer: " + line, false);
            return line;
        }
        String row = "answers[" + TOLD.size() + "] = ";
        String words = answer.group(2) == null ? "" : answer.group(2);
        TOLD.add(new Told(call.group(1), call.group(2), Long.parseLong(answer.group(1)), words));
        if (READ.contains(call.group(2))) {
            return row + call.group(2) + "(x, " + call.group(3) + ");";
        }
        return row + "new long[] {" + call.group(1) + "};";
    }

    /** What the page tells in words where a test can read it: texts, letters and the parts of faults. */
    private static void words(Told told, long[] answers) {
        if (READ.contains(told.name)) {
            StringBuilder text = new StringBuilder();
            for (int i = 1; i < answers.length; i++) {
                text.append((char) answers[i]);
            }
            DUE.same("README.md: " + told.call, text.toString().trim().replace("\n", "\", \""), quoted(told.words));
        }
        if (Set.of("at", "put", "reads").contains(told.name)) {
            DUE.holds("tells the letter: " + told.call, told.words.matches(".*, an? ."));
            DUE.due("letter of " + told.call, told.words.charAt(told.words.length() - 1), told.answer);
        }
        Matcher fault = Pattern.compile("-2 less the fault 1 \\+ 8 \\* (\\d+) \\+ (\\d):.*").matcher(told.words);
        if (fault.matches()) {
            DUE.due("fault of " + told.words, told.answer, Due.fault(Integer.parseInt(fault.group(1)), Integer.parseInt(fault.group(2))));
        }
    }

    /** From the first quote to the last one. */
    private static String quoted(String words) {
        Matcher quoted = Pattern.compile("\"(.*)\"").matcher(words);
        return quoted.find() ? quoted.group(1) : "(no text is told)";
    }

    private static void everyCallIsShown() {
        Set<String> shown = new TreeSet<>();
        TOLD.forEach(told -> shown.add(told.name));
        Set<String> face = new TreeSet<>();
        for (Method method : GalleyMarks.class.getDeclaredMethods()) {
            if (Modifier.isPublic(method.getModifiers())) {
                face.add(method.getName());
            }
        }
        DUE.same("the calls that the page shows", shown.toString(), face.toString());
    }

    private static long[][] run(String program) throws Exception {
        Path room = Files.createTempDirectory("readme");
        try {
            Path source = room.resolve("ReadmePage.java");
            Files.writeString(source, program);
            int failed = ToolProvider.getSystemJavaCompiler().run(null, null, null, "-cp", System.getProperty("java.class.path"),
                "-d", room.toString(), source.toString());
            if (failed != 0) {
                throw new IllegalStateException("the calls in README.md do not compile");
            }
            try (URLClassLoader loader = new URLClassLoader(new URL[] {room.toUri().toURL()}, ReadmeTest.class.getClassLoader())) {
                return (long[][]) loader.loadClass("ReadmePage").getMethod("answers").invoke(null);
            }
        } finally {
            ScriptTest.remove(room);
        }
    }

    // ---- commands, table, paths

    /** The commands run in a directory that has the project's sources, so that what they make is not left behind. */
    private static void commands(List<String> blocks) throws Exception {
        Path room = Files.createTempDirectory("readme");
        try {
            Files.createSymbolicLink(room.resolve("src"), Path.of("src").toAbsolutePath());
            boolean script = false;
            for (String command : String.join("", blocks).split("\n")) {
                if (command.equals(".ci/run")) {
                    // ScriptTest tries it; here it would call itself
                    DUE.holds(".ci/run can be run", Files.isExecutable(Path.of(".ci/run")));
                    script = true;
                    continue;
                }
                Process run = new ProcessBuilder("sh", "-c", command).directory(room.toFile()).redirectErrorStream(true).start();
                String said = new String(run.getInputStream().readAllBytes());
                DUE.due("exit code of " + command + " (" + said.trim() + ")", run.waitFor(), 0);
            }
            DUE.holds("the page says .ci/run", script);
        } finally {
            ScriptTest.remove(room);
        }
    }

    private static void table(String page) throws IOException {
        Set<String> rows = new TreeSet<>();
        Matcher row = Pattern.compile("(?m)^\\| (\\w+Test) \\| .+ \\|$").matcher(page);
        while (row.find()) {
            DUE.holds("one row for " + row.group(1), rows.add(row.group(1)));
        }
        Set<String> tests = new TreeSet<>();
        try (Stream<Path> files = Files.list(Path.of("src/test/java"))) {
            files.map(file -> file.getFileName().toString()).filter(name -> name.endsWith("Test.java"))
                .forEach(name -> tests.add(name.replace(".java", "")));
        }
        DUE.same("the tests in the page's table", rows.toString(), tests.toString());
    }

    private static void paths(String page) {
        Matcher path = Pattern.compile("`([\\w./]+/[\\w./]+)`").matcher(page);
        while (path.find()) {
            DUE.holds(path.group(1) + " is there", Files.exists(Path.of(path.group(1))));
        }
    }
}
