/** Promises 9 and 21 to 25: how texts are set in LINES, which CHANGED, PAGES, and what it all costs. */
public final class LinesTest {
    private static final Due DUE = new Due("LinesTest");

    public static void main(String[] args) {
        lines();
        fullOut();
        whichText();
        widths();
        changed();
        runs();
        costs();
        costOfKinds();
        withoutThese();
        DUE.close();
    }

    /** LINES of a GALLEY and of a WISH, told as place:BYTES. */
    private static void set(String text, int width, String want) {
        GalleyMarks x = new GalleyMarks();
        Due.galley(x, text);
        DUE.same("LINES of '" + text + "' for " + width, told(x, 0, width), want);
        Due.wish(x, text);
        DUE.same("LINES of the WISH '" + text + "' for " + width, told(x, 1, width), want);
        Due.law(x, "stands 1");
        DUE.same("LINES of OUT '" + text + "' for " + width, told(x, 2, width), want);
    }

    private static String told(GalleyMarks x, int what, int width) {
        StringBuilder lines = new StringBuilder();
        for (int k = 0; k < x.lines(what, width); k++) {
            lines.append(k == 0 ? "" : " ");
            lines.append(x.line(what, width, k, 0)).append(':').append(x.line(what, width, k, 1));
        }
        return lines.toString();
    }

    private static void lines() {
        set("", 5, "");
        set("     ", 5, "");
        set("the cat sat", 5, "0:3 4:3 8:3");
        set("the cat sat", 7, "0:7 8:3");
        set("the cat sat", 6, "0:3 4:3 8:3");
        set("the cat sat", 11, "0:11");
        set("the   cat   sat", 7, "0:7 12:3");
        set("  the cat  ", 60, "2:7");
        set("ab cd", 5, "0:5");
        set("abcde", 5, "0:5");
        set("abcdef", 5, "0:5 5:1");
        set("abcdefghij", 5, "0:5 5:5");
        set("abcdefghijk", 5, "0:5 5:5 10:1");
        set("abcdefg hi", 5, "0:5 5:5");
        set("abcdefg hij", 5, "0:5 5:2 8:3");
        set("x abcdefg", 5, "0:1 2:5 7:2");
        set("x abcde y", 5, "0:1 2:5 8:1");
        set("x abcdefghij y", 5, "0:1 2:5 7:5 13:1");
        set("a b c d e", 5, "0:5 6:3");
    }

    private static void fullOut() {
        GalleyMarks x = Due.with("g".repeat(200), "");
        for (int k = 0; k < 11; k++) {
            Due.marks(x, 0, "ins " + k + "'0123456789abcdefghij'");
        }
        Due.law(x, "stands 1");
        DUE.same("LINES of 400 BYTES", told(x, 2, 60), "0:60 60:60 120:60 180:60 240:60 300:60 360:40");
        DUE.due("80 LINES", x.lines(2, 5), 80);
        DUE.due("the last one", x.line(2, 5, 79, 1), 5);
        DUE.due("all CHANGED", x.changed(0, 5), 80);
    }

    private static void whichText() {
        GalleyMarks x = Due.with("one two", "del 0 4");
        Due.wish(x, "a b c d e f");
        Due.law(x, "stands 1");
        Due.law(x, "stands 2");
        Due.marks(x, 0, "ins 7 ' three four'");
        DUE.due("GALLEY", x.lines(0, 5), 2);
        DUE.due("WISH", x.lines(1, 5), 2);
        DUE.due("OUT by 0", x.lines(2, 5), 3);
        DUE.due("OUT by 1", x.lines(3, 5), 3);
        DUE.due("OUT by 2", x.lines(4, 5), -1);
        DUE.due("below 0", x.lines(-1, 5), -1);
        DUE.due("far above", x.lines(Integer.MAX_VALUE, 5), -1);
        DUE.due("far below", x.lines(Integer.MIN_VALUE, 5), -1);
    }

    private static void widths() {
        GalleyMarks x = Due.with("one two", "");
        Due.law(x, "stands 1");
        int[] wrong = {4, 61, 0, -1, Integer.MIN_VALUE, Integer.MAX_VALUE};
        for (int width : wrong) {
            DUE.due("lines for " + width, x.lines(0, width), -1);
            DUE.due("line for " + width, x.line(0, width, 0, 0), -1);
            DUE.due("changed for " + width, x.changed(0, width), -1);
            DUE.due("run for " + width, x.run(0, width, 1), -1);
            DUE.due("costs for " + width, x.costs(0, width), -1);
        }
        DUE.due("lines for 60", x.lines(0, 60), 1);
        DUE.due("lines for 5", x.lines(0, 5), 2);
    }

    private static void change(String galley, String marks, int width, int want) {
        GalleyMarks x = Due.with(galley, marks);
        Due.law(x, "stands 1");
        DUE.due("CHANGED by " + marks + " for " + width, x.changed(0, width), want);
        DUE.due("RUN of PAGES with one LINE", x.run(0, width, 1), want);
    }

    private static void changed() {
        change("one two six", "", 5, 0);
        change("one two six", "cap 0 1", 5, 1);
        change("one two six", "cap 5 6", 5, 1);
        change("one two six", "cap 0 11", 5, 3);
        change("one two six", "del 8 11", 5, 1);
        change("one two six", "ins 11 ' ten'", 5, 1);
        change("one two six", "ins 0 'a '", 5, 1);
        change("one two six", "ins 0 'ten '", 5, 4);
        change("one two six", "del 0 11", 5, 3);
        change("", "ins 0 'one two'", 5, 2);
        // blanks between words are one each, so that none more changes a LINE
        change("one  two six", "close 3", 7, 0);
        change("one two six", "ins 3 '    '", 7, 0);
        change("one two six", "ins 0 '   '", 5, 0);
    }

    private static void runs() {
        GalleyMarks x = Due.with("aaaa bbbb cccc dddd eeee", "cap 0 1;cap 5 6;cap 20 21");
        Due.law(x, "stands 1");
        DUE.due("changed", x.changed(0, 5), 3);
        DUE.due("run(0, 5, 1)", x.run(0, 5, 1), 3);
        DUE.due("run(0, 5, 2)", x.run(0, 5, 2), 2);
        DUE.due("run(0, 5, 3)", x.run(0, 5, 3), 2);
        DUE.due("run(0, 5, 4)", x.run(0, 5, 4), 2);
        DUE.due("run(0, 5, 5)", x.run(0, 5, 5), 1);
        DUE.due("run(0, 5, 60)", x.run(0, 5, 60), 1);
        DUE.due("run(0, 5, 0)", x.run(0, 5, 0), -1);
        DUE.due("run(0, 5, 61)", x.run(0, 5, 61), -1);
        DUE.due("run(0, 5, -1)", x.run(0, 5, -1), -1);
        DUE.due("run(1, 5, 1)", x.run(1, 5, 1), -1);
    }

    private static void costs() {
        GalleyMarks x = Due.with("one two six", "ins 0 'abc';del 3 4;cap 4 6;low 6 7;move 8 9 10;stet 10 11");
        x.hand(1);
        Due.marks(x, 1, "ins 0 'abc';close 3;swap 8 9 10;cap 4 5");
        Due.law(x, "stands 1");
        DUE.due("all stand", x.many(0, 1), 10);
        DUE.due("costs are 0 at first", x.costs(0, 5), 0);
        int[] lengths = {3, 1, 3, 1, 1, 1};
        for (int kind = 0; kind < 6; kind++) {
            x.cost(kind, 10);
            DUE.due("cost of kind " + kind + " alone", x.costs(0, 5), 10 * lengths[kind]);
            x.cost(kind, 0);
        }
        x.cost(6, 7);
        DUE.due("LINES alone", x.costs(0, 5), 7 * x.changed(0, 5));
        x.cost(0, 99);
        DUE.due("together", x.costs(0, 5), 99 * 3 + 7 * x.changed(0, 5));
        Due.marks(x, 1, "ins 0 'abd'");
        DUE.due("what is OPEN costs nothing", x.costs(0, 60), 7);
        DUE.due("costs(1, 5)", x.costs(1, 5), -1);
        DUE.due("costs(-1, 5)", x.costs(-1, 5), -1);
    }

    private static void costOfKinds() {
        GalleyMarks x = new GalleyMarks();
        for (int kind = 0; kind <= 6; kind++) {
            DUE.due("cost(" + kind + ", 99)", x.cost(kind, 99), 0);
            DUE.due("cost(" + kind + ", 100)", x.cost(kind, 100), -1);
            DUE.due("cost(" + kind + ", -1)", x.cost(kind, -1), -1);
            DUE.due("cost(" + kind + ", k)", x.cost(kind, kind), 99);
        }
        for (int kind = 0; kind <= 6; kind++) {
            DUE.due("cost(" + kind + ", 0)", x.cost(kind, 0), kind);
        }
        DUE.due("cost(7, 1)", x.cost(7, 1), -1);
        DUE.due("cost(-1, 1)", x.cost(-1, 1), -1);
    }

    private static void withoutThese() {
        GalleyMarks x = Due.with("one two", "");
        DUE.due("line(0, 5, 2, 0)", x.line(0, 5, 2, 0), -1);
        DUE.due("line(0, 5, -1, 0)", x.line(0, 5, -1, 0), -1);
        DUE.due("line(0, 5, 0, 2)", x.line(0, 5, 0, 2), -1);
        DUE.due("line(0, 5, 0, -1)", x.line(0, 5, 0, -1), -1);
        DUE.due("line(1, 5, 0, 0)", x.line(1, 5, 0, 0), -1);
        DUE.due("line(2, 5, 0, 0)", x.line(2, 5, 0, 0), -1);
        DUE.due("line(-1, 5, 0, 0)", x.line(-1, 5, 0, 0), -1);
        DUE.due("changed(0, 5)", x.changed(0, 5), -1);
        DUE.due("changed(-1, 5)", x.changed(-1, 5), -1);
        DUE.due("run(-1, 5, 1)", x.run(-1, 5, 1), -1);
    }
}
