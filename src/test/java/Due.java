import java.util.LinkedHashSet;
import java.util.Set;

/** Counts answers that are not as due, and tells texts to the TAPE of an object. */
final class Due {
    record Sentence(int promise, String words) {
    }

    /** All that were tested since the machine began. */
    static final Set<Sentence> SENTENCES = new LinkedHashSet<>();

    private final String name;
    /** The sentence of the document that the answers rest on; told with each that is wrong. */
    private String sentence = "";
    private int wrong;
    private int asked;

    Due(String name) {
        this.name = name;
    }

    void due(String call, long got, long want) {
        asked++;
        if (got != want) {
            wrong++;
            System.out.println(name + ": " + sentence + call + " answered " + got + ", due is " + want);
        }
    }

    /**
     * What follows tests this sentence of a promise (0: of what stands ahead of Promise 1). SentencesTest looks
     * whether the document says it in these words, and whether any sentence is left without a test.
     */
    void sentence(int promise, String words) {
        SENTENCES.add(new Sentence(promise, words));
        sentence = "[" + promise + ": " + words + "] ";
    }

    void holds(String what, boolean holds) {
        due(what, holds ? 1 : 0, 1);
    }

    /** Ends the test: exit code 1 if an answer was wrong. */
    void close() {
        System.out.println(name + ": " + asked + " answers, " + wrong + " wrong");
        if (wrong != 0) {
            System.exit(1);
        }
    }

    /** Puts a text (characters 0 to 255) behind the TAPE. */
    static int tell(GalleyMarks x, String text) {
        int have = x.count(5);
        for (int i = 0; i < text.length(); i += 20) {
            if (have + i + 20 > 400) {
                x.end(have);
                throw new IllegalArgumentException("the TAPE has no room for " + text.length());
            }
            x.feed(four(text, i), four(text, i + 4), four(text, i + 8), four(text, i + 12), four(text, i + 16));
        }
        return x.end(have + text.length());
    }

    private static int four(String text, int from) {
        int number = 0;
        for (int i = from; i < from + 4; i++) {
            number = number << 8 | (i < text.length() ? text.charAt(i) & 255 : 0);
        }
        return number;
    }

    static int galley(GalleyMarks x, String text) {
        tell(x, text);
        return x.galley();
    }

    static int wish(GalleyMarks x, String text) {
        tell(x, text);
        return x.wishes();
    }

    static int marks(GalleyMarks x, int hand, String text) {
        tell(x, text);
        return x.marks(hand);
    }

    static int law(GalleyMarks x, String text) {
        tell(x, text);
        return x.law();
    }

    /** What a FAULT of a kind at a place answers. */
    static int fault(int place, int kind) {
        return -2 - (1 + 8 * place + kind);
    }

    /** OUT by a LAW. */
    static String out(GalleyMarks x, int law) {
        StringBuilder out = new StringBuilder();
        for (int i = 0; i < x.out(law); i++) {
            out.append((char) x.reads(law, i));
        }
        return out.toString();
    }

    /** A galley with a HAND of rank 5 and its MARKS. */
    static GalleyMarks with(String galley, String marks) {
        GalleyMarks x = new GalleyMarks();
        galley(x, galley);
        x.hand(5);
        if (!marks.isEmpty() && marks(x, 0, marks) < 0) {
            throw new IllegalArgumentException(marks);
        }
        return x;
    }

    /** A galley with HANDS of ranks 0, 1, .. and the MARKS of each. */
    static GalleyMarks hands(String galley, String... marks) {
        GalleyMarks x = new GalleyMarks();
        galley(x, galley);
        for (int hand = 0; hand < marks.length; hand++) {
            x.hand(hand);
            if (!marks[hand].isEmpty() && marks(x, hand, marks[hand]) < 0) {
                throw new IllegalArgumentException(marks[hand]);
            }
        }
        return x;
    }

    void same(String what, String got, String want) {
        asked++;
        if (!got.equals(want)) {
            wrong++;
            System.out.println(name + ": " + sentence + what + " is '" + got + "', due is '" + want + "'");
        }
    }
}
