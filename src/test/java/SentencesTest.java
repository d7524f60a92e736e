import java.io.IOException;
import java.nio.file.Files;
import java.nio.file.Path;
import java.util.regex.Matcher;
import java.util.regex.Pattern;

/**
 * Each sentence of the promises and of the terms is tested by one of the tests of edges: these say which sentence they
 * are at, in the document's own words, and none of it may be left over.
 */
public final class SentencesTest {
    private static final Due DUE = new Due("SentencesTest");
    private static final Path DOCUMENT = Path.of("../shared/DOC.md");
    private static final int PROMISES = 33;

    public static void main(String[] args) throws IOException {
        if (!Files.exists(DOCUMENT)) {
            System.out.println("SentencesTest: there is no " + DOCUMENT + " to compare with");
            return;
        }
        EdgesTapeTest.main(args);
        EdgesMarksTest.main(args);
        EdgesClashTest.main(args);
        EdgesLawTest.main(args);
        EdgesStandsTest.main(args);
        EdgesOutTest.main(args);
        EdgesLinesTest.main(args);
        EdgesEditTest.main(args);
        EdgesReadersTest.main(args);
        EdgesImageTest.main(args);
        String document = Files.readString(DOCUMENT);
        compare(0, terms(document));
        for (int promise = 1; promise <= PROMISES; promise++) {
            compare(promise, promised(document, promise));
        }
        DUE.due("promises", count(document), PROMISES);
        DUE.close();
    }

    private static int count(String document) {
        Matcher heading = Pattern.compile("(?m)^## Promise \\d+:").matcher(document);
        int found = 0;
        while (heading.find()) {
            found++;
        }
        return found;
    }

    private static String flat(String text) {
        return text.replaceAll("\\s+", " ").trim();
    }

    /** What stands ahead of the promises, but for the face and for what the class is about. */
    private static String terms(String document) {
        int used = document.indexOf("An object is used");
        int face = document.indexOf("## The public face");
        int terms = document.indexOf("## Terms");
        int promises = document.indexOf("## Promise 1:");
        String text = document.substring(used, face) + document.substring(terms + "## Terms".length(), promises);
        return flat(text.replaceAll("(?m)^```(text)?$", " ").replaceAll("==== I+\\.", " "));
    }

    private static String promised(String document, int promise) {
        int from = document.indexOf("## Promise " + promise + ":");
        int to = document.indexOf("\n## ", from);
        String text = document.substring(from, to);
        return flat(text.substring(text.indexOf("`: ") + 3));
    }

    private static void compare(int promise, String text) {
        StringBuilder left = new StringBuilder(text);
        for (Due.Sentence sentence : Due.SENTENCES) {
            if (sentence.promise() != promise) {
                continue;
            }
            String words = flat(sentence.words());
            DUE.holds("the document says of " + promise + ": " + words, text.contains(words));
            for (int at = text.indexOf(words); at >= 0; at = text.indexOf(words, at + 1)) {
                for (int i = at; i < at + words.length(); i++) {
                    left.setCharAt(i, ' ');
                }
            }
        }
        DUE.same("what no test says of " + promise, flat(left.toString()), "");
    }
}
