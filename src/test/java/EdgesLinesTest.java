/** Sentence by sentence, at the boundary and just beyond it: promises 9 and 21 to 25, LINES, PAGES and COSTS. */
public final class EdgesLinesTest {
    private static final Due DUE = new Due("EdgesLinesTest");
    private static final int LEAST = Integer.MIN_VALUE;
    private static final int MOST = Integer.MAX_VALUE;
    private static final int[] NO_WIDTHS = {4, 61, 0, -5, LEAST, MOST};

    public static void main(String[] args) {
        widths();
        wordsOnALine();
        broaderWords();
        fullOut();
        whichText();
        noSuchText();
        whatOfALine();
        noSuchLine();
        changedLines();
        changedAnew();
        changedByALaw();
        pages();
        fullPages();
        noSuchPages();
        costsAtFirst();
        costsOfKinds();
        noSuchCost();
        costByALaw();
        costOfALine();
        costAnew();
        costOfSixtyFour();
        noSuchCosts();
        DUE.close();
    }

    private static String told(GalleyMarks x, int what, int width) {
        StringBuilder lines = new StringBuilder();
        for (int k = 0; k < x.lines(what, width); k++) {
            lines.append(k == 0 ? "" : " ").append(x.line(what, width, k, 0)).append(':').append(x.line(what, width, k, 1));
        }
        return lines.toString();
    }

    /** LINES of a text as place:BYTES, be it the GALLEY, the WISH or OUT. */
    private static void set(String text, int width, String want) {
        GalleyMarks x = new GalleyMarks();
        Due.galley(x, text);
        Due.law(x, "stands 1");
        Due.wish(x, text);
        for (int what = 0; what <= 2; what++) {
            DUE.same("text " + what + " '" + text + "' for " + width, told(x, what, width), want);
        }
    }

    private static GalleyMarks lawful(String galley, String... marks) {
        GalleyMarks x = Due.hands(galley, marks);
        Due.law(x, "stands 1");
        return x;
    }

    private static final String LINES = "LINES of a text for a width (5 to 60): words (as far as there is no blank) one behind the other with one "
        + "blank between, as many as go on a LINE;";

    private static void widths() {
        DUE.sentence(0, LINES);
        GalleyMarks x = lawful("g".repeat(200), "ins 3 'x'");
        for (int width = 1; width <= 64; width++) {
            boolean is = width >= 5 && width <= 60;
            DUE.due("lines(0, " + width + ")", x.lines(0, width), is ? (200 + width - 1) / width : -1);
            DUE.due("line(0, " + width + ", 0, 1)", x.line(0, width, 0, 1), is ? width : -1);
        }
        for (int width : NO_WIDTHS) {
            DUE.due("lines(0, " + width + ")", x.lines(0, width), -1);
            DUE.due("line(0, " + width + ", 0, 0)", x.line(0, width, 0, 0), -1);
            DUE.due("changed(0, " + width + ")", x.changed(0, width), -1);
            DUE.due("run(0, " + width + ", 1)", x.run(0, width, 1), -1);
            DUE.due("costs(0, " + width + ")", x.costs(0, width), -1);
        }
        int[] least = {5, 60};
        for (int width : least) {
            DUE.due("changed(0, " + width + ")", x.changed(0, width), 2);
            DUE.due("run(0, " + width + ", 60)", x.run(0, width, 60), 1);
            DUE.due("costs(0, " + width + ")", x.costs(0, width), 0);
        }
    }

    private static void wordsOnALine() {
        DUE.sentence(0, LINES);
        set("", 5, "");
        set(" ", 5, "");
        set(" ".repeat(200), 60, "");
        set("a", 5, "0:1");
        set("ab cd", 5, "0:5");
        set("ab cde", 5, "0:2 3:3");
        set("abc de", 6, "0:6");
        set("a b c", 5, "0:5");
        set("a b c d", 5, "0:5 6:1");
        set("ab   cd", 5, "0:5");
        set("   ab   cd   ", 5, "3:5");
        set("   ab   cde   ", 5, "3:2 8:3");
        set("abcd e", 6, "0:6");
        set("abcd e", 5, "0:4 5:1");
        set("abcde f", 5, "0:5 6:1");
        set("a".repeat(59) + " b", 60, "0:59 60:1");
        set("a".repeat(58) + " b", 60, "0:60");
        set("abc ".repeat(50), 5, every(50, 4, 3));
        set("a ".repeat(100), 5, every(33, 6, 5) + " 198:1");
    }

    /** So many LINES, each so many places behind the one ahead. */
    private static String every(int lines, int places, int bytes) {
        StringBuilder told = new StringBuilder("0:" + bytes);
        for (int k = 1; k < lines; k++) {
            told.append(" ").append(k * places).append(":").append(bytes);
        }
        return told.toString();
    }

    private static void broaderWords() {
        DUE.sentence(0, "a word that is broader than the width begins a LINE and is cut into pieces of the width, the last of which is a word like "
            + "others.");
        set("abcde", 5, "0:5");
        set("abcdef", 5, "0:5 5:1");
        set("abcdefghi", 5, "0:5 5:4");
        set("abcdefghij", 5, "0:5 5:5");
        set("abcdefghijk", 5, "0:5 5:5 10:1");
        // it begins a LINE, though the one ahead has room
        set("x abcde", 5, "0:1 2:5");
        set("x abcdef", 5, "0:1 2:5 7:1");
        set("x abcdef", 6, "0:1 2:6");
        set("x abcd", 6, "0:6");
        // its last piece goes with others, as far as they go on the LINE
        set("abcdef ghi", 5, "0:5 5:5");
        set("abcdef ghij", 5, "0:5 5:1 7:4");
        set("abcdefgh i", 5, "0:5 5:5");
        set("abcdefghi j", 5, "0:5 5:4 10:1");
        set("abcdefghij k", 5, "0:5 5:5 11:1");
        set("abcdef ghijkl", 5, "0:5 5:1 7:5 12:1");
        set("g".repeat(200), 60, "0:60 60:60 120:60 180:20");
        set("g".repeat(60), 60, "0:60");
        set("g".repeat(61), 60, "0:60 60:1");
        set(" " + "g".repeat(61) + " ", 60, "1:60 61:1");
    }

    /** So many times 20 BYTES put into a GALLEY of 200, none of them a blank. */
    private static GalleyMarks put(int times) {
        GalleyMarks x = lawful("g".repeat(200), "");
        for (int k = 0; k < times; k++) {
            Due.marks(x, 0, "ins " + k + " '" + "t".repeat(20) + "'");
        }
        return x;
    }

    private static void fullOut() {
        DUE.sentence(0, "a word that is broader than the width begins a LINE and is cut into pieces of the width, the last of which is a word like "
            + "others.");
        for (int times = 10; times <= 11; times++) {
            GalleyMarks x = put(times);
            DUE.due("OUT is full", x.out(0), 400);
            DUE.due("LINES for 5", x.lines(2, 5), 80);
            DUE.due("the last one", x.line(2, 5, 79, 0), 395);
            DUE.due("its BYTES", x.line(2, 5, 79, 1), 5);
            DUE.due("none behind it", x.line(2, 5, 80, 0), -1);
            DUE.due("LINES for 60", x.lines(2, 60), 7);
            DUE.due("BYTES of the last one", x.line(2, 60, 6, 1), 40);
            DUE.due("CHANGED", x.changed(0, 5), 80);
            DUE.due("PAGES", x.run(0, 5, 60), 2);
        }
        // words of one BYTE: no text has more of them
        set("a ".repeat(99) + "a", 5, threes());
    }

    /** 99 words of one BYTE and one more, three to a LINE. */
    private static String threes() {
        StringBuilder lines = new StringBuilder();
        for (int k = 0; k < 33; k++) {
            lines.append(6 * k).append(":5 ");
        }
        return lines.append("198:1").toString();
    }

    private static void whichText() {
        DUE.sentence(21, "LINES of what 0: the GALLEY, 1: the WISH, 2 and above: OUT by the LAW 0, ..;");
        GalleyMarks x = Due.hands("aaa", "ins 0 'bbb '", "ins 3 ' ccc ddd'", "del 0 1");
        Due.wish(x, "a b c d e f g h i");
        DUE.due("GALLEY", x.lines(0, 5), 1);
        DUE.due("WISH", x.lines(1, 5), 3);
        for (int law = 0; law < 4; law++) {
            Due.law(x, "stands 1");
            DUE.due("OUT by LAW " + law, x.lines(2 + law, 5), 4);
        }
        GalleyMarks y = Due.hands("aaa bbb", "del 0 4", "cap 3 7");
        Due.law(y, "stands 9-hand");
        Due.law(y, "stands hand");
        DUE.due("OUT by the first", y.lines(2, 5), 1);
        DUE.due("OUT by the second", y.lines(3, 5), 2);
        DUE.due("of no BYTES", new GalleyMarks().lines(0, 5), 0);
    }

    private static void noSuchText() {
        DUE.sentence(21, "NONE without these.");
        GalleyMarks x = Due.with("aaa", "");
        DUE.due("OUT without a LAW", x.lines(2, 5), -1);
        for (int law = 0; law < 4; law++) {
            Due.law(x, "stands 1");
            DUE.due("OUT by LAW " + law, x.lines(2 + law, 5), 1);
            DUE.due("OUT by one more", x.lines(3 + law, 5), -1);
        }
        int[] wrong = {-1, -2, 6, 7, LEAST, LEAST + 1, LEAST + 2, MOST};
        for (int what : wrong) {
            DUE.due("lines(" + what + ", 5)", x.lines(what, 5), -1);
        }
        for (int width : NO_WIDTHS) {
            for (int what = 0; what <= 5; what++) {
                DUE.due("lines(" + what + ", " + width + ")", x.lines(what, width), -1);
            }
        }
    }

    private static void whatOfALine() {
        DUE.sentence(22, "Of a LINE of these what 0: the place of its first BYTE in that text, 1: how many BYTES it has (blanks between words one each);");
        GalleyMarks x = lawful("  aa   bb   cccccc", "ins 2 'x ';ins 18 '   d'");
        Due.wish(x, " w");
        // OUT is "  x aa   bb   cccccc   d"
        DUE.same("GALLEY", told(x, 0, 5), "2:5 12:5 17:1");
        DUE.same("WISH", told(x, 1, 5), "1:1");
        DUE.same("OUT", told(x, 2, 5), "2:4 9:2 14:5 19:3");
    }

    private static void noSuchLine() {
        DUE.sentence(22, "NONE without these.");
        GalleyMarks x = lawful("aaa bbb", "del 0 4");
        int[][] wrong = {{0, 5, 2, 0}, {0, 5, 2, 1}, {0, 5, -1, 0}, {0, 5, -1, 1}, {0, 5, LEAST, 0}, {0, 5, MOST, 0}, {0, 5, 0, 2}, {0, 5, 0, -1},
            {0, 5, 0, LEAST}, {0, 5, 0, MOST}, {1, 5, 0, 0}, {2, 5, 1, 0}, {3, 5, 0, 0}, {-1, 5, 0, 0}, {LEAST, 5, 0, 0}, {LEAST + 2, 5, 0, 0},
            {MOST, 5, 0, 0}, {0, 4, 0, 0}, {0, 61, 0, 0}, {2, 4, 0, 0}, {2, 61, 0, 0}};
        for (int[] w : wrong) {
            DUE.due("line(" + w[0] + ", " + w[1] + ", " + w[2] + ", " + w[3] + ")", x.line(w[0], w[1], w[2], w[3]), -1);
        }
        DUE.due("line(0, 5, 1, 0)", x.line(0, 5, 1, 0), 4);
        DUE.due("line(2, 5, 0, 1)", x.line(2, 5, 0, 1), 3);
    }

    private static void change(String galley, String marks, int width, int want) {
        GalleyMarks x = lawful(galley, marks);
        DUE.due("CHANGED by " + marks + " of " + galley + " for " + width, x.changed(0, width), want);
    }

    private static void changedLines() {
        DUE.sentence(0, "CHANGED: LINES (by their numbers) that are not alike in the GALLEY and in OUT (one that is there in one alone, too).");
        change("", "", 5, 0);
        change("aaa bbb ccc", "", 5, 0);
        change("aaa bbb ccc", "cap 0 1", 5, 1);
        change("aaa bbb ccc", "cap 10 11", 5, 1);
        change("aaa bbb ccc", "cap 0 1;cap 10 11", 5, 2);
        change("aaa bbb ccc", "cap 3 4", 5, 0);
        // there in one alone
        change("aaa bbb ccc", "del 8 11", 5, 1);
        change("aaa bbb ccc", "ins 11 ' ddd'", 5, 1);
        change("aaa bbb ccc", "del 0 11", 5, 3);
        change("", "ins 0 'aaa bbb'", 5, 2);
        // by their numbers
        change("aaa bbb ccc", "del 0 4", 5, 3);
        change("aaa bbb ccc", "ins 0 'ddd '", 5, 4);
        change("aaa aaa aaa", "del 0 4", 5, 1);
        change("aaa aaa aaa", "ins 0 'aaa '", 5, 1);
        // a LINE that begins like another one but goes on
        change("aaa bbb", "ins 3 ' c'", 5, 1);
        change("aaa bbb", "ins 3 'c'", 5, 1);
        change("aa bb", "del 2 5", 5, 1);
        // LINES may be alike where the BYTES lie elsewhere
        change("aaa bbb", "ins 0 '    '", 5, 0);
        change("aaa bbb", "ins 3 '    '", 7, 0);
        change("aaa  bbb", "close 4", 7, 0);
        change("abcdef", "ins 5 ' '", 5, 0);
    }

    /** What was a LINE before is none when there are fewer. */
    private static void changedAnew() {
        DUE.sentence(0, "CHANGED: LINES (by their numbers) that are not alike in the GALLEY and in OUT (one that is there in one alone, too).");
        GalleyMarks x = lawful("aaaaa bbbbb", "");
        DUE.due("alike", x.changed(0, 5), 0);
        Due.marks(x, 0, "del 5 11");
        DUE.due("there in the GALLEY alone", x.changed(0, 5), 1);
        DUE.due("PAGES", x.run(0, 5, 1), 1);
        Due.galley(x, "aaaaa");
        Due.marks(x, 0, "ins 5 ' bbbbb'");
        DUE.due("there in OUT alone", x.changed(0, 5), 1);
        Due.galley(x, "aaaaa bbbbb");
        DUE.due("alike again", x.changed(0, 5), 0);
    }

    private static void changedByALaw() {
        DUE.sentence(23, "CHANGED by a LAW;");
        GalleyMarks x = Due.hands("aaa bbb", "cap 0 5", "low 0 1");
        Due.law(x, "stands 9-hand");
        Due.law(x, "stands hand");
        Due.law(x, "stands 1");
        Due.law(x, "stands 0-hand");
        int[] want = {2, 0, 0, 2};
        for (int law = 0; law < 4; law++) {
            DUE.due("changed(" + law + ", 5)", x.changed(law, 5), want[law]);
        }
        DUE.sentence(23, "NONE without these.");
        int[] wrong = {4, -1, LEAST, MOST};
        for (int law : wrong) {
            DUE.due("changed(" + law + ", 5)", x.changed(law, 5), -1);
        }
        for (int width : NO_WIDTHS) {
            DUE.due("changed(0, " + width + ")", x.changed(0, width), -1);
        }
        DUE.due("without a LAW", Due.with("aaa", "").changed(0, 5), -1);
    }

    private static void pages() {
        DUE.sentence(0, "PAGES of so many LINES (1 to 60) with a LINE that CHANGED: RUN.");
        GalleyMarks x = lawful("aaaa bbbb cccc dddd eeee ffff", "cap 0 1;cap 10 11;cap 15 16");
        DUE.sentence(24, "RUN by a LAW for PAGES of so many LINES;");
        // LINES 0, 2 and 3 of six CHANGED
        int[] want = {0, 3, 2, 2, 1, 1, 1, 1};
        for (int page = 1; page < want.length; page++) {
            DUE.due("run(0, 5, " + page + ")", x.run(0, 5, page), want[page]);
        }
        DUE.due("run(0, 5, 60)", x.run(0, 5, 60), 1);
        DUE.due("none CHANGED", lawful("aaa").run(0, 5, 60), 0);
        DUE.due("none CHANGED, PAGES of one", lawful("aaa").run(0, 5, 1), 0);
        DUE.due("of no LINES", lawful("").run(0, 5, 1), 0);
        DUE.due("the last PAGE, not full", lawful("aaaa bbbb cccc", "cap 10 11").run(0, 5, 2), 1);
        DUE.due("a PAGE in OUT alone", lawful("aaaa bbbb", "ins 9 ' cccc'").run(0, 5, 2), 1);
        DUE.due("a PAGE in the GALLEY alone", lawful("aaaa bbbb cccc", "del 9 14").run(0, 5, 2), 1);
    }

    /** 200 BYTES in 40 LINES; from LINE 38 on all are others, up to LINE 79 of OUT. */
    private static void fullPages() {
        DUE.sentence(0, "PAGES of so many LINES (1 to 60) with a LINE that CHANGED: RUN.");
        GalleyMarks x = lawful("g".repeat(200), "");
        for (int k = 191; k <= 200; k++) {
            Due.marks(x, 0, "ins " + k + " '" + "t".repeat(20) + "'");
        }
        DUE.due("OUT", x.out(0), 400);
        DUE.due("LINES of OUT", x.lines(2, 5), 80);
        DUE.due("CHANGED", x.changed(0, 5), 42);
        int[] pages = {1, 2, 19, 20, 21, 38, 39, 40, 41, 59, 60};
        int[] want = {42, 21, 3, 3, 3, 2, 3, 2, 2, 2, 2};
        for (int i = 0; i < pages.length; i++) {
            DUE.due("run(0, 5, " + pages[i] + ")", x.run(0, 5, pages[i]), want[i]);
        }
    }

    private static void noSuchPages() {
        DUE.sentence(24, "NONE without these.");
        GalleyMarks x = lawful("aaaa bbbb", "cap 0 1");
        int[][] wrong = {{0, 5, 0}, {0, 5, 61}, {0, 5, -1}, {0, 5, LEAST}, {0, 5, MOST}, {0, 4, 1}, {0, 61, 1}, {0, LEAST, 1}, {0, MOST, 1}, {1, 5, 1},
            {4, 5, 1}, {-1, 5, 1}, {LEAST, 5, 1}, {MOST, 5, 1}};
        for (int[] w : wrong) {
            DUE.due("run(" + w[0] + ", " + w[1] + ", " + w[2] + ")", x.run(w[0], w[1], w[2]), -1);
        }
        DUE.due("run(0, 5, 1)", x.run(0, 5, 1), 1);
        DUE.due("run(0, 60, 60)", x.run(0, 60, 60), 1);
    }

    private static void costsAtFirst() {
        DUE.sentence(0, "COSTS of kinds 0 to 5, and of a LINE that CHANGED (6): 0 to 99 each (0 at first).");
        GalleyMarks x = lawful("abcdefgh", "ins 0 'x';del 0 1;cap 1 2;low 2 3;move 3 4 5;stet 6 7");
        DUE.due("all stand", x.many(0, 1), 6);
        DUE.due("0 at first", x.costs(0, 5), 0);
        for (int kind = 0; kind <= 6; kind++) {
            DUE.due("cost of " + kind + " at first", x.cost(kind, 0), 0);
            DUE.due("the most", x.cost(kind, 99), 0);
            DUE.due("the least", x.cost(kind, 0), 99);
            DUE.due("more than the most", x.cost(kind, 100), -1);
            DUE.due("less than the least", x.cost(kind, -1), -1);
            DUE.due("it is as it was", x.cost(kind, 99), 0);
        }
        DUE.due("99 each, of one BYTE each, and of one LINE", x.costs(0, 5), 99 * 7);
    }

    private static void costsOfKinds() {
        DUE.sentence(9, "COST of a kind (6: of a LINE) becomes n: what it was;");
        GalleyMarks x = new GalleyMarks();
        for (int kind = 0; kind <= 6; kind++) {
            DUE.due("cost(" + kind + ", " + (10 + kind) + ")", x.cost(kind, 10 + kind), 0);
        }
        for (int kind = 0; kind <= 6; kind++) {
            DUE.due("cost(" + kind + ", 99)", x.cost(kind, 99), 10 + kind);
            DUE.due("cost(" + kind + ", 99) again", x.cost(kind, 99), 99);
        }
    }

    private static void noSuchCost() {
        DUE.sentence(9, "NONE, and nothing happens, without these.");
        GalleyMarks x = new GalleyMarks();
        for (int kind = 0; kind <= 6; kind++) {
            x.cost(kind, 50 + kind);
        }
        int[][] wrong = {{7, 1}, {8, 1}, {-1, 1}, {LEAST, 1}, {MOST, 1}, {7, 100}, {-1, -1}, {0, 100}, {0, -1}, {3, LEAST}, {3, MOST}, {6, 100},
            {6, -1}};
        for (int[] w : wrong) {
            DUE.due("cost(" + w[0] + ", " + w[1] + ")", x.cost(w[0], w[1]), -1);
        }
        for (int kind = 0; kind <= 6; kind++) {
            DUE.due("cost of " + kind, x.cost(kind, 0), 50 + kind);
        }
    }

    private static void costByALaw() {
        DUE.sentence(0, "COST by a LAW for a width: of all MARKS that stand (ALIKE ones once) the cost of its kind times LONG, and that of a LINE times "
            + "CHANGED, together.");
        String[] marks = {"ins 0 'abc'", "del 0 2", "cap 0 4", "low 0 5", "move 0 6 8", "stet 0 7", "close 8", "swap 0 1 3",
            "ins 0 '" + "t".repeat(20) + "'"};
        int[] kinds = {0, 1, 2, 3, 4, 5, 1, 4, 0};
        int[] lengths = {3, 2, 4, 5, 6, 7, 1, 1, 20};
        for (int i = 0; i < marks.length; i++) {
            GalleyMarks x = lawful("abcdefgh ", marks[i], "", marks[i] + ";" + marks[i]);
            for (int kind = 0; kind < 6; kind++) {
                x.cost(kind, 10 + kind);
            }
            DUE.due("ALIKE ones stand", x.many(0, 1), 3);
            DUE.due("COST of " + marks[i] + ", once", x.costs(0, 60), (10 + kinds[i]) * lengths[i]);
        }
        GalleyMarks x = lawful("abcdefgh", "del 0 2;del 1 3;cap 4 6;low 5 7", "del 0 2");
        DUE.sentence(25, "COST by a LAW;");
        for (int kind = 0; kind < 6; kind++) {
            x.cost(kind, 1 + kind);
        }
        DUE.due("what is OPEN costs nothing, ones that are not ALIKE cost each", x.costs(0, 60), 2 * 2 + 2 * 2);
        Due.law(x, "stands kind");
        DUE.due("nor what FALLS", x.costs(1, 60), 2 * 2 + 2 * 2 + 4 * 2);
    }

    private static void costOfALine() {
        DUE.sentence(25, "COST by a LAW;");
        GalleyMarks x = lawful("aaa bbb ccc", "cap 0 1;ins 11 ' ddd eee'");
        x.cost(6, 99);
        DUE.due("three LINES", x.costs(0, 5), 3 * 99);
        DUE.due("two LINES", x.costs(0, 12), 2 * 99);
        DUE.due("one LINE", x.costs(0, 60), 99);
        x.cost(2, 7);
        DUE.due("and a cap", x.costs(0, 5), 3 * 99 + 7);
        GalleyMarks most = lawful("g".repeat(200), "del 0 200");
        most.cost(1, 99);
        most.cost(6, 99);
        DUE.due("all struck", most.costs(0, 5), 99 * 200 + 99 * 40);
        DUE.due("no MARKS", lawful("aaa").costs(0, 5), 0);
    }

    /** MARKS that are gone cost nothing. */
    private static void costAnew() {
        DUE.sentence(25, "COST by a LAW;");
        GalleyMarks x = lawful("abcdefgh", "cap 0 2;del 2 5;stet 6 8");
        x.cost(1, 10);
        x.cost(2, 3);
        x.cost(5, 7);
        DUE.due("of three MARKS", x.costs(0, 60), 2 * 3 + 3 * 10 + 2 * 7);
        Due.galley(x, "abcdefgh");
        DUE.due("of none", x.costs(0, 60), 0);
        Due.marks(x, 0, "cap 0 2");
        DUE.due("of one", x.costs(0, 60), 2 * 3);
    }

    private static void costOfSixtyFour() {
        DUE.sentence(25, "COST by a LAW;");
        String[] marks = new String[4];
        for (int hand = 0; hand < 4; hand++) {
            StringBuilder told = new StringBuilder();
            for (int k = 0; k < 16; k++) {
                told.append(k == 0 ? "" : ";").append("del ").append(16 * hand + k).append(' ').append(16 * hand + k + 1);
            }
            marks[hand] = told.toString();
        }
        GalleyMarks x = lawful("g".repeat(64), marks);
        x.cost(1, 99);
        DUE.due("of all MARKS that there can be", x.costs(0, 60), 64 * 99);
    }

    private static void noSuchCosts() {
        DUE.sentence(25, "NONE without these.");
        GalleyMarks x = lawful("aaa", "cap 0 1");
        x.cost(6, 5);
        int[][] wrong = {{1, 5}, {4, 5}, {-1, 5}, {LEAST, 5}, {MOST, 5}, {0, 4}, {0, 61}, {0, 0}, {0, LEAST}, {0, MOST}};
        for (int[] w : wrong) {
            DUE.due("costs(" + w[0] + ", " + w[1] + ")", x.costs(w[0], w[1]), -1);
        }
        DUE.due("costs(0, 5)", x.costs(0, 5), 5);
        DUE.due("costs(0, 60)", x.costs(0, 60), 5);
    }
}
