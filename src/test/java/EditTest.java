/** Promises 26 to 28: the cheapest EDIT, with a move ahead of it, and the FEWEST MARKS. */
public final class EditTest {
    private static final Due DUE = new Due("EditTest");

    public static void main(String[] args) {
        edits();
        leastWhereTheyPart();
        longTexts();
        moves();
        movesOfTheSameCost();
        movesAndRoom();
        fewest();
        DUE.close();
    }

    /** COSTS of ins, del, cap, low and move. */
    private static GalleyMarks priced(String galley, String wish, int... costs) {
        GalleyMarks x = new GalleyMarks();
        Due.galley(x, galley);
        Due.wish(x, wish);
        for (int kind = 0; kind < costs.length; kind++) {
            x.cost(kind, costs[kind]);
        }
        return x;
    }

    private static void edit(GalleyMarks x, int cost, String steps) {
        DUE.due("edit(-1)", x.edit(-1), cost);
        DUE.due("edit(-2)", x.edit(-2), steps.length());
        for (int k = 0; k < steps.length(); k++) {
            DUE.due("edit(" + k + ") of " + steps, x.edit(k), steps.charAt(k) - '0');
        }
        DUE.due("edit behind the last", x.edit(steps.length()), -1);
        DUE.due("edit(-3)", x.edit(-3), -1);
        DUE.due("edit(min)", x.edit(Integer.MIN_VALUE), -1);
        DUE.due("edit(max)", x.edit(Integer.MAX_VALUE), -1);
    }

    private static void edits() {
        edit(priced("", "", 1, 1, 1, 1), 0, "");
        edit(priced("abc", "abc", 1, 1, 1, 1), 0, "000");
        edit(priced("abc", "", 1, 2, 1, 1), 6, "111");
        edit(priced("", "abc", 3, 2, 1, 1), 9, "222");
        edit(priced("abc", "axc", 3, 2, 1, 1), 5, "0120");
        edit(priced("abC", "Abc", 9, 9, 4, 5), 9, "304");
        edit(priced("a", "A", 2, 2, 5, 5), 4, "12");
        edit(priced("a", "A", 2, 2, 3, 5), 3, "3");
        edit(priced("A", "a", 2, 2, 3, 5), 4, "12");
        edit(priced("A", "a", 2, 2, 5, 3), 3, "4");
        edit(priced("[", "{", 2, 2, 1, 1), 4, "12");
        edit(priced("@", "`", 2, 2, 1, 1), 4, "12");
    }

    private static void leastWhereTheyPart() {
        edit(priced("a", "a"), 0, "0");
        edit(priced("ab", "b"), 0, "10");
        edit(priced("b", "ab"), 0, "122");
        edit(priced("a", "A", 2, 2, 4, 4), 4, "12");
        edit(priced("ab", "ba", 1, 1, 1, 1), 2, "102");
        edit(priced("aa", "a", 1, 1, 1, 1), 1, "01");
        edit(priced("a", "aa", 1, 1, 1, 1), 1, "02");
        edit(priced("x", "yz", 1, 1, 1, 1), 3, "122");
        edit(priced("aA", "A", 0, 5, 0, 0), 5, "10");
    }

    private static void longTexts() {
        String text = "abcdefghij".repeat(20);
        GalleyMarks x = priced(text, "z".repeat(200), 99, 99, 99, 99);
        DUE.due("all struck and put in", x.edit(-1), 400 * 99);
        DUE.due("400 steps", x.edit(-2), 400);
        DUE.due("the last", x.edit(399), 2);
        DUE.due("the first", x.edit(0), 1);
        DUE.due("behind it", x.edit(400), -1);
        Due.wish(x, text);
        DUE.due("all kept", x.edit(-1), 0);
        DUE.due("200 steps", x.edit(-2), 200);
        x.cost(2, 1);
        Due.wish(x, text.toUpperCase());
        DUE.due("all raised", x.edit(-1), 200);
        DUE.due("a raise", x.edit(199), 3);
        x.cost(2, 2);
        DUE.due("a COST becomes another", x.edit(-1), 400);
    }

    private static void move(GalleyMarks x, int cost, int first, int second, int third) {
        DUE.due("moved(0)", x.moved(0), cost);
        DUE.due("moved(1)", x.moved(1), first);
        DUE.due("moved(2)", x.moved(2), second);
        DUE.due("moved(3)", x.moved(3), third);
    }

    private static void moves() {
        move(priced("abcd", "abcd", 1, 1, 1, 1, 1), 0, -2, -2, -2);
        move(priced("abcd", "cdab", 2, 2, 0, 0, 1), 2, 0, 2, 4);
        move(priced("abcde", "eabcd", 2, 2, 0, 0, 1), 1, 4, 5, 0);
        move(priced("abcde", "bcdea", 2, 2, 0, 0, 1), 1, 0, 1, 5);
        move(priced("abcde", "bcdea", 2, 2, 0, 0, 4), 4, -2, -2, -2);
        move(priced("abcde", "bcdeA", 9, 9, 3, 0, 2), 5, 0, 1, 5);
        move(priced("", "abc", 1, 1, 1, 1, 0), 3, -2, -2, -2);
        move(priced("abc", "", 1, 1, 1, 1, 0), 3, -2, -2, -2);
        move(priced("abcdef", "xdefyabc", 2, 2, 0, 0, 1), 7, 0, 3, 6);
        // of two passages that change places the shorter one may be worth its move alone
        move(priced("abcdefgh", "habcdefg", 2, 2, 0, 0, 1), 1, 7, 8, 0);
        move(priced("abcdefgh", "bcdefgha", 2, 2, 0, 0, 1), 1, 0, 1, 8);
        move(priced("abcdefghijkl", "abcefghijkld", 2, 2, 0, 0, 1), 1, 3, 4, 12);
    }

    private static void movesOfTheSameCost() {
        move(priced("ab", "ba", 2, 2, 0, 0, 1), 1, 0, 1, 2);
        move(priced("abcd", "cdab", 2, 2, 0, 0, 0), 0, 0, 2, 4);
        move(priced("xab", "xba", 2, 2, 0, 0, 1), 1, 1, 2, 3);
        move(priced("aab", "aba", 2, 2, 0, 0, 1), 1, 0, 1, 3);
    }

    private static void movesAndRoom() {
        GalleyMarks x = priced("x" + "y".repeat(23), "y".repeat(23) + "x", 5, 5, 0, 0, 1);
        move(x, 1, 0, 1, 24);
        DUE.due("moved(4)", x.moved(4), -1);
        DUE.due("moved(-1)", x.moved(-1), -1);
        Due.galley(x, "y".repeat(25));
        for (int what = 0; what < 4; what++) {
            DUE.due("moved of 25 BYTES", x.moved(what), -1);
        }
        Due.galley(x, "abcdefghijklmnopqrstuvwx");
        Due.wish(x, "mnopqrstuvwxabcdefghijkl" + "z".repeat(176));
        move(x, 176 * 5 + 12, 0, 12, 24);
    }

    private static void fewest(String galley, String wish, String marks, int want) {
        GalleyMarks x = Due.with(galley, marks);
        Due.wish(x, wish);
        DUE.due("fewest of " + marks + " for " + wish, x.fewest(), want);
    }

    private static void fewest() {
        fewest("", "", "", 0);
        fewest("abc", "abc", "del 0 1;cap 1 2", 0);
        fewest("abc", "abd", "del 0 1;cap 1 2", -2);
        fewest("abc", "bc", "cap 0 1;del 0 1", 2);
        fewest("abc", "bc", "del 0 1;del 0 1", 1);
        fewest("abc", "c", "del 0 1;del 1 2;del 0 2", 4);
        fewest("abc", "c", "del 0 1;del 0 2;del 1 2;del 0 2", 2);
        fewest("abc", "xABC", "cap 0 2;ins 0 'x';cap 2 3;stet 0 1", 7);
        fewest("abcd", "cdab", "move 2 4 0;move 0 2 4;del 0 1", 1);
        fewest("abc", "Bc", "del 0 2;del 0 1;cap 1 2", 6);
        fewest("abc", "C", "del 0 2;cap 1 3", -2);
        GalleyMarks x = Due.with("abcdefghijkl", "");
        x.hand(1);
        Due.marks(x, 1, "cap 6 7;cap 7 8;cap 8 9;cap 9 10;cap 10 11;cap 11 12");
        Due.marks(x, 0, "cap 0 1;cap 1 2;cap 2 3;cap 3 4;cap 4 5;cap 5 6");
        Due.wish(x, "ABCDEFGHIJKL");
        DUE.due("all 12", x.fewest(), 4095);
        Due.wish(x, "AbcdefGhijkl");
        DUE.due("the HANDS' MARKS one behind the other", x.fewest(), 65);
        Due.marks(x, 0, "cap 0 12");
        DUE.due("13 MARKS", x.fewest(), -1);
    }
}
