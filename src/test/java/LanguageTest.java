import java.io.IOException;
import java.lang.reflect.Constructor;
import java.lang.reflect.Executable;
import java.lang.reflect.Field;
import java.lang.reflect.Method;
import java.lang.reflect.Modifier;
import java.nio.file.Files;
import java.nio.file.Path;
import java.util.ArrayList;
import java.util.Arrays;
import java.util.List;
import java.util.Set;
import java.util.TreeSet;
import java.util.regex.Matcher;
import java.util.regex.Pattern;

/** The face of the class, and the rules of LANGUAGE.md that can be seen from outside (numbers as there). */
public final class LanguageTest {
    private static final Due DUE = new Due("LanguageTest");
    private static final String[] FACE = {"int feed(int,int,int,int,int)", "int end(int)", "int galley()", "int wishes()",
        "int hand(int)", "int marks(int)", "int law()", "int cost(int,int)", "int at(int,int)", "int mark(int,int,int)",
        "int put(int,int,int)", "int clash(int,int,int,int)", "int clashes(int)", "long weight(int,int,int)",
        "int stands(int,int,int)", "int falls(int,int,int)", "int many(int,int)", "int out(int)", "int reads(int,int)",
        "int lines(int,int)", "int line(int,int,int,int)", "int changed(int,int)", "int run(int,int,int)", "int costs(int,int)",
        "int edit(int)", "int moved(int)", "int fewest()", "int unseen(int,int,int,int)", "int rate(int,int)", "int count(int)",
        "int image(int)", "int back(int)"};

    public static void main(String[] args) throws IOException {
        face();
        faceOfDocument();
        classes();
        source(Files.readString(Path.of("src/main/java/GalleyMarks.java")));
        DUE.close();
    }

    private static String signature(Method method) {
        List<String> types = new ArrayList<>();
        for (Class<?> type : method.getParameterTypes()) {
            types.add(type.getSimpleName());
        }
        return method.getReturnType().getSimpleName() + " " + method.getName() + "(" + String.join(",", types) + ")";
    }

    private static void face() {
        Class<?> type = GalleyMarks.class;
        DUE.holds("public and final", Modifier.isPublic(type.getModifiers()) && Modifier.isFinal(type.getModifiers()));
        Set<String> want = new TreeSet<>(Arrays.asList(FACE));
        Set<String> got = new TreeSet<>();
        Set<String> names = new TreeSet<>();
        for (Method method : type.getDeclaredMethods()) {
            if (Modifier.isPublic(method.getModifiers())) {
                got.add(signature(method));
                names.add(method.getName());
            } else {
                DUE.holds("1: " + method + " is private", Modifier.isPrivate(method.getModifiers()));
            }
        }
        DUE.same("the face", got.toString(), want.toString());
        for (Field field : type.getDeclaredFields()) {
            DUE.holds("1: " + field, field.getName().equals("NONE") || Modifier.isPrivate(field.getModifiers()));
        }
        for (Constructor<?> made : type.getDeclaredConstructors()) {
            DUE.holds("1: " + made, Modifier.isPublic(made.getModifiers()) && made.getParameterCount() == 0);
        }
        for (Class<?> inside : all()) {
            for (Method method : inside.getDeclaredMethods()) {
                DUE.holds("1: " + method + " bears a name of the face", inside == type || !names.contains(method.getName()));
                DUE.holds("11: parameters of " + method, method.getParameterCount() <= 7);
            }
        }
    }

    /** The face as the document has it: without the document, FACE alone is compared. */
    private static void faceOfDocument() throws IOException {
        Path document = Path.of("../shared/DOC.md");
        if (!Files.exists(document)) {
            return;
        }
        Set<String> told = new TreeSet<>();
        Matcher method = Pattern.compile("(?m)^    public (int|long) (\\w+)\\((.*)\\);$").matcher(Files.readString(document));
        while (method.find()) {
            told.add(method.group(1) + " " + method.group(2) + "(" + method.group(3).replaceAll("int \\w+", "int").replace(", ", ",") + ")");
        }
        DUE.same("the face of the document", told.toString(), new TreeSet<>(Arrays.asList(FACE)).toString());
    }

    private static List<Class<?>> all() {
        List<Class<?>> all = new ArrayList<>(List.of(GalleyMarks.class.getDeclaredClasses()));
        all.add(GalleyMarks.class);
        return all;
    }

    private static void classes() {
        DUE.holds("11: some twelve classes", all().size() <= 13);
        for (Class<?> type : all()) {
            int fields = 0;
            for (Field field : type.getDeclaredFields()) {
                fields += Modifier.isStatic(field.getModifiers()) ? 0 : 1;
                DUE.holds("5: " + field, !Modifier.isStatic(field.getModifiers()) || Modifier.isFinal(field.getModifiers()));
            }
            DUE.holds("11: fields of " + type, fields <= 20);
            DUE.holds("2: " + type + " is static", type == GalleyMarks.class || Modifier.isStatic(type.getModifiers()));
            for (Executable made : type.getDeclaredConstructors()) {
                DUE.holds("11: parameters of " + made, made.getParameterCount() <= 7);
            }
        }
    }

    private static void source(String source) {
        String code = source.replaceAll("(?s)/\\*.*?\\*/", "").replaceAll("//.*", "").replaceAll("\"[^\"]*\"", "\"\"");
        String[] never = {"\\bthrow\\b", "\\bthrows\\b", "\\btry\\b", "\\bcatch\\b", "\\bsynchronized\\b", "\\bassert\\b", "->", "::",
            "Exact\\b", "\\bwhile\\s*\\(\\s*true", "\\bstatic\\s*\\{", "\\bpackage\\b", "\\bnew\\s+Object\\b", "\\bvar\\b", "\\bfloat\\b",
            "\\bdouble\\b", "\\bimport(?! java\\.util\\.Arrays;)", "for\\s*\\(\\s*;"};
        for (String word : never) {
            Matcher found = Pattern.compile(word).matcher(code);
            DUE.holds("never " + word, !found.find());
        }
        Set<String> library = Set.of("Arrays.fill", "Arrays.copyOf", "System.arraycopy", "Math.min", "Math.max", "Integer.bitCount");
        Matcher used = Pattern.compile("\\b(?:Arrays|System|Math|Integer|Long|Character|String)\\.\\w+").matcher(code);
        while (used.find()) {
            DUE.holds("4: " + used.group(), library.contains(used.group()));
        }
        DUE.holds("signs 1 to 127", source.chars().allMatch(c -> c >= 1 && c <= 127));
        methodLengths(source);
    }

    /** Methods stand in the outer class at 4 blanks, in classes inside at 8. */
    private static void methodLengths(String source) {
        String[] lines = source.split("\n");
        for (int i = 0; i < lines.length; i++) {
            Matcher head = Pattern.compile("^( {4}| {8})(?!\\s).*\\) \\{$").matcher(lines[i]);
            if (head.matches()) {
                int last = i;
                while (!lines[last].equals(head.group(1) + "}")) {
                    last++;
                }
                DUE.holds("11: length of " + lines[i].trim(), last - i < 60);
            }
        }
    }
}
