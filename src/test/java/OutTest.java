/** Promises 19 and 20: what the text is by the MARKS that stand. */
public final class OutTest {
    private static final Due DUE = new Due("OutTest");

    public static void main(String[] args) {
        touched();
        putIn();
        moved();
        movesWithin();
        movesWithOthers();
        onlyWhatStands();
        byOneAndAnother(1);
        byOneAndAnother(50);
        byOneAndAnother(200);
        atMost400();
        withoutThese();
        DUE.close();
    }

    private static void out(String galley, String marks, String want) {
        GalleyMarks x = Due.with(galley, marks);
        Due.law(x, "stands 1");
        DUE.due(marks + " all stand", x.many(0, 1), x.count(3));
        DUE.due(marks + " out", x.out(0), want.length());
        DUE.same(marks + " by " + galley, Due.out(x, 0), want);
    }

    private static void touched() {
        out("hello", "", "hello");
        out("", "ins 0 'x'", "x");
        out("hello", "del 1 3", "hlo");
        out("hello", "del 0 5", "");
        out("hello", "del 1 3;del 2 4", "ho");
        out("he1[o", "cap 0 5", "HE1[O");
        out("HE1`O{@", "low 0 7", "he1`o{@");
        out("aZ", "cap 0 2", "AZ");
        out("aZ", "low 0 2", "az");
        out("a b", "close 1", "ab");
        out("hello", "stet 0 5", "hello");
    }

    private static void putIn() {
        out("abc", "ins 0 'x';ins 3 'y';ins 1 'zz'", "xazzbcy");
        out("abc", "ins 1 'x';ins 1 'x'", "axbc");
        out("abc", "ins 1 'Q';low 0 1;del 1 2", "aQc");
        out("abc", "del 0 3;ins 0 'x';ins 3 'y'", "xy");
    }

    private static void moved() {
        out("abcdef", "move 1 3 5", "adebcf");
        out("abcdef", "move 3 5 1", "adebcf");
        out("abcdef", "move 0 1 6", "bcdefa");
        out("abcdef", "move 5 6 0", "fabcde");
        out("abcdef", "swap 0 3 6", "defabc");
        out("abcdef", "move 0 1 2;move 0 1 2", "bacdef");
        out("abcdef", "move 0 1 2;move 2 3 4;move 4 5 6", "badcfe");
        out("abcdef", "move 1 2 0;move 3 4 2;move 5 6 4", "badcfe");
    }

    private static void movesWithin() {
        // within the BYTES that are moved
        out("abcdefgh", "move 0 4 8;move 0 1 2", "efghbacd");
        out("abcdefgh", "move 0 1 2;move 0 4 8", "efghbacd");
        out("abcdefgh", "move 0 4 8;move 3 4 1", "efghadbc");
        // within those that they go over
        out("abcdefgh", "move 0 4 8;move 4 5 7", "fgehabcd");
        out("abcdefgh", "move 4 8 0;move 0 1 2", "efghbacd");
        out("abcdefgh", "move 4 8 0;move 3 4 1", "efghadbc");
        // three deep
        out("abcdefgh", "move 1 2 3;move 0 4 5;move 0 6 8", "ghe" + "acbd" + "f");
    }

    private static void movesWithOthers() {
        // an ins comes with its PLACE: PLACES between the ends go along, the ends stay
        out("abcdef", "move 1 3 5;ins 2 'X'", "adebXcf");
        out("abcdef", "move 1 3 5;ins 1 'X'", "aXdebcf");
        out("abcdef", "move 1 3 5;ins 3 'X'", "aXdebcf");
        out("abcdef", "move 1 3 5;ins 1 'X';ins 3 'Y'", "aXYdebcf");
        out("abcdef", "move 1 3 5;ins 5 'X'", "adeXbcf");
        out("abcdef", "move 1 3 5;ins 4 'X'", "adXebcf");
        out("abcdef", "move 0 3 6;ins 6 'X'", "defXabc");
        out("abcdef", "move 1 3 5;cap 2 4;del 4 5", "aDbCf");
        out("abcdef", "move 1 3 5;del 1 3", "adef");
        out("abcdef", "move 0 1 3;move 3 4 6;ins 3 'X'", "bcXa" + "efd");
    }

    private static void onlyWhatStands() {
        GalleyMarks x = Due.with("abcdef", "del 0 2;cap 1 3;ins 6 '!'");
        Due.law(x, "stands 2 if kind=1;stands 1");
        Due.law(x, "stands 2 if kind=2;stands 1");
        Due.law(x, "stands 0");
        DUE.same("the del stands", Due.out(x, 0), "cdef!");
        DUE.same("the cap stands", Due.out(x, 1), "aBCdef!");
        DUE.same("both are OPEN", Due.out(x, 2), "abcdef!");
        Due.marks(x, 0, "ins 3 '-'");
        DUE.same("one more", Due.out(x, 2), "abc-def!");
        Due.galley(x, "new");
        DUE.same("a new GALLEY", Due.out(x, 2), "new");
    }

    /** What one LAW lets stand is gone by another, also at the first and the last PLACE. */
    private static void byOneAndAnother(int bytes) {
        String galley = "g".repeat(bytes);
        GalleyMarks x = Due.with(galley, "ins 0 'a';ins 0 'b';ins " + bytes + "'y';ins " + bytes + "'z'");
        Due.law(x, "stands number");
        Due.law(x, "stands 1");
        DUE.same("by the number", Due.out(x, 0), "b" + galley + "z");
        DUE.same("all OPEN", Due.out(x, 1), galley);
        DUE.same("by the number again", Due.out(x, 0), "b" + galley + "z");
    }

    private static void atMost400() {
        GalleyMarks x = Due.with("g".repeat(200), "");
        String put = "0123456789abcdefghij";
        for (int k = 0; k < 11; k++) {
            Due.marks(x, 0, "ins " + 10 * k + "'" + put + "'");
        }
        Due.law(x, "stands 1");
        DUE.due("out", x.out(0), 400);
        DUE.due("reads(0, 399)", x.reads(0, 399), 'g');
        DUE.due("reads(0, 400)", x.reads(0, 400), -1);
        DUE.due("reads(0, 0)", x.reads(0, 0), '0');
        Due.marks(x, 0, "ins 190 '" + put + "'");
        DUE.due("the 399th is of the last ins", x.reads(0, 399), 'g');
        Due.marks(x, 0, "del 11 20");
        DUE.due("400 still", x.out(0), 400);
        Due.marks(x, 0, "del 0 200");
        DUE.due("a del that meets every ins but the first is OPEN with them", x.out(0), 200 - 9 + 20);
    }

    private static void withoutThese() {
        GalleyMarks x = Due.with("abc", "");
        DUE.due("out(0)", x.out(0), -1);
        DUE.due("reads(0, 0)", x.reads(0, 0), -1);
        Due.law(x, "stands 1");
        DUE.due("out(0)", x.out(0), 3);
        DUE.due("out(1)", x.out(1), -1);
        DUE.due("out(-1)", x.out(-1), -1);
        DUE.due("out(4)", x.out(4), -1);
        DUE.due("reads(0, 3)", x.reads(0, 3), -1);
        DUE.due("reads(0, -1)", x.reads(0, -1), -1);
        DUE.due("reads(1, 0)", x.reads(1, 0), -1);
        DUE.due("reads(-1, 0)", x.reads(-1, 0), -1);
    }
}
