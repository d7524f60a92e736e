import java.io.IOException;
import java.nio.file.Files;
import java.nio.file.Path;
import java.util.ArrayList;
import java.util.Comparator;
import java.util.List;
import java.util.stream.Stream;

/** The script .ci/run, tried in small projects: it runs every test, and fails if one fails or can't be run. */
public final class ScriptTest {
    private static final Due DUE = new Due("ScriptTest");
    private static final String FINE = "System.out.println(\"ran %1$s\");";
    private static final String FAILS = "System.out.println(\"ran %1$s\"); System.exit(1);";
    private static final String THROWS = "System.out.println(\"ran %1$s\"); throw new IllegalStateException();";
    private static final String BROKEN = "this is no Java";
    private static final String[] ALL = {"SharedOne", "SharedTwo", "FirstTest", "SecondTest"};

    /** One project with its run of the script. */
    private record Try(String name, Path room, Process run, boolean passes, String[] ran) {
    }

    private static final List<Try> TRIES = new ArrayList<>();

    public static void main(String[] args) throws Exception {
        try {
            String mine = "public final class GalleyMarks { }";
            start("all pass", true, mine, FINE, FINE, FINE, FINE);
            start("a test of the project fails", false, mine, FINE, FINE, FAILS, FINE);
            start("the last test of the project throws", false, mine, FINE, FINE, FINE, THROWS);
            start("a shared test fails", false, mine, FAILS, FINE, FINE, FINE);
            start("the last shared test throws", false, mine, FINE, THROWS, FINE, FINE);
            start("a shared test does not compile", false, mine, BROKEN, FINE, FINE, FINE);
            start("a test of the project does not compile", false, mine, FINE, FINE, FINE, BROKEN);
            start("the class does not compile", false, BROKEN, FINE, FINE, FINE, FINE);
            start("there is no shared test", false, mine, null, null, FINE, FINE);
            for (Try tried : TRIES) {
                look(tried);
            }
        } finally {
            for (Try tried : TRIES) {
                remove(tried.room);
            }
        }
        DUE.close();
    }

    /** Makes a project with two shared tests and two of its own, and runs the script there from elsewhere. */
    private static void start(String name, boolean passes, String mine, String... tests) throws IOException {
        Path room = Files.createTempDirectory("script");
        Path project = room.resolve("project");
        Path script = project.resolve(".ci/run");
        write(project.resolve("src/main/java/GalleyMarks.java"), mine);
        Files.createDirectories(script.getParent());
        Files.copy(Path.of(".ci/run"), script);
        List<String> ran = new ArrayList<>();
        boolean ownCompile = !mine.equals(BROKEN) && !tests[2].equals(BROKEN) && !tests[3].equals(BROKEN);
        for (int i = 0; i < 4; i++) {
            Path directory = i < 2 ? room.resolve("shared/tests") : project.resolve("src/test/java");
            if (tests[i] == null) {
                continue;
            }
            write(directory.resolve(ALL[i] + ".java"), source(ALL[i], tests[i]));
            if (!mine.equals(BROKEN) && !tests[i].equals(BROKEN) && (i < 2 || ownCompile)) {
                ran.add(ALL[i]);
            }
        }
        write(project.resolve("src/test/java/Helper.java"), source("Helper", FAILS));
        Process run = new ProcessBuilder("sh", script.toString()).directory(room.toFile()).redirectErrorStream(true)
            .redirectOutput(room.resolve("said").toFile()).start();
        TRIES.add(new Try(name, room, run, passes, ran.toArray(new String[0])));
    }

    /** Each test makes an object, as it is to be compiled together with the class. */
    private static String source(String name, String body) {
        return "public final class " + name + " { public static void main(String[] args) { new GalleyMarks();\n"
            + String.format(body, name) + "\n} }\n";
    }

    private static void write(Path file, String text) throws IOException {
        Files.createDirectories(file.getParent());
        Files.writeString(file, text);
    }

    private static void look(Try tried) throws Exception {
        int code = tried.run.waitFor();
        String said = Files.readString(tried.room.resolve("said"));
        DUE.holds(tried.name + ": exit code " + code + "\n" + said, (code == 0) == tried.passes);
        List<String> ran = new ArrayList<>();
        for (String line : said.split("\n")) {
            if (line.startsWith("ran ")) {
                ran.add(line.substring(4));
            }
        }
        DUE.same(tried.name + ": tests that ran", ran.toString(), List.of(tried.ran).toString());
        DUE.holds(tried.name + ": nothing is left in the project", !Files.exists(tried.room.resolve("project/build")));
    }

    /** Removes a directory with all that is in it; links are removed, not followed. */
    static void remove(Path room) throws IOException {
        try (Stream<Path> files = Files.walk(room)) {
            for (Path file : files.sorted(Comparator.reverseOrder()).toList()) {
                Files.delete(file);
            }
        }
    }
}
