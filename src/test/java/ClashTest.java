/** Promises 13 and 14: which MARKS cannot both be meant. */
public final class ClashTest {
    private static final Due DUE = new Due("ClashTest");
    private static final String GALLEY = "abcdefghijkl";

    public static void main(String[] args) {
        touching();
        puttingIn();
        stets();
        moves();
        counted();
        withoutThese();
        DUE.close();
    }

    private static void clash(String one, String other, int want) {
        GalleyMarks x = Due.with(GALLEY, one + ";" + other);
        DUE.due(one + " and " + other, x.clash(0, 0, 0, 1), want);
        DUE.due(other + " and " + one, x.clash(0, 1, 0, 0), want);
        x.hand(0);
        Due.marks(x, 1, other);
        DUE.due(one + " and another HAND's " + other, x.clash(0, 0, 1, 0), want);
    }

    private static void touching() {
        clash("del 2 5", "cap 4 6", 1);
        clash("del 2 5", "low 0 3", 1);
        clash("del 2 5", "cap 5 6", 0);
        clash("del 2 5", "low 0 2", 0);
        clash("del 2 5", "del 3 4", 0);
        clash("cap 2 5", "low 4 5", 2);
        clash("cap 2 5", "low 5 6", 0);
        clash("cap 2 5", "cap 2 4", 0);
        clash("low 2 5", "low 2 4", 0);
        clash("move 2 4 6", "del 2 4", 0);
        clash("move 2 4 6", "cap 0 8", 0);
    }

    private static void puttingIn() {
        clash("ins 3 'a'", "ins 3 'b'", 3);
        clash("ins 3 'a'", "ins 3 'ab'", 3);
        clash("ins 3 'a'", "ins 3 'a'", 0);
        clash("ins 3 'a'", "ins 4 'b'", 0);
        clash("ins 3 'a'", "del 2 4", 4);
        clash("ins 2 'a'", "del 2 4", 0);
        clash("ins 4 'a'", "del 2 4", 0);
        clash("ins 3 'a'", "cap 2 4", 0);
        clash("ins 3 'a'", "move 2 4 6", 0);
    }

    private static void stets() {
        clash("stet 2 5", "del 4 6", 5);
        clash("stet 2 5", "cap 0 3", 5);
        clash("stet 2 5", "low 2 3", 5);
        clash("stet 2 5", "del 5 6", 0);
        clash("stet 2 5", "move 1 3 8", 5);
        clash("stet 2 5", "move 6 7 3", 0);
        clash("stet 2 5", "move 0 2 7", 0);
        clash("stet 2 5", "ins 3 'x'", 5);
        clash("stet 2 5", "ins 2 'x'", 0);
        clash("stet 2 5", "ins 5 'x'", 0);
        clash("stet 2 5", "stet 2 6", 0);
    }

    private static void moves() {
        clash("move 2 4 7", "move 2 4 7", 0);
        clash("move 2 4 7", "move 2 4 8", 6);
        clash("move 2 4 7", "move 7 8 9", 0);
        clash("move 2 4 7", "move 8 9 7", 6);
        clash("move 2 4 7", "move 9 10 8", 0);
        clash("move 2 4 7", "move 1 2 0", 0);
        clash("move 4 7 2", "move 0 1 2", 6);
        clash("move 2 4 7", "move 0 1 3", 6);
        // within the BYTES that it moves
        clash("move 2 6 9", "move 3 4 5", 0);
        clash("move 2 6 9", "move 2 3 5", 0);
        clash("move 2 6 9", "move 5 6 4", 0);
        clash("move 2 6 9", "move 3 4 6", 6);
        clash("move 2 6 9", "move 3 4 2", 6);
        clash("move 2 6 9", "move 3 4 7", 6);
        // within those that these go over
        clash("move 0 2 6", "move 2 3 5", 0);
        clash("move 0 2 6", "move 5 6 3", 0);
        clash("move 0 2 6", "move 3 4 6", 6);
        clash("move 0 2 6", "move 3 4 2", 6);
        clash("move 6 8 2", "move 2 3 5", 0);
        clash("move 6 8 2", "move 5 6 3", 0);
        clash("move 6 8 2", "move 3 4 6", 6);
        clash("move 6 8 2", "move 3 4 2", 6);
        // partly the one, partly the other
        clash("move 0 4 8", "move 3 5 7", 6);
        clash("move 0 4 8", "move 1 2 6", 6);
    }

    private static void counted() {
        GalleyMarks x = Due.with(GALLEY, "del 2 5;cap 4 6;low 5 6;ins 3 'a';ins 3 'b';stet 0 12");
        x.hand(0);
        Due.marks(x, 1, "move 2 4 7;move 2 4 8;ins 3 'a'");
        int[] want = {16, 1, 1, 2, 3, 8, 1};
        int sum = 0;
        for (int kind = 1; kind <= 6; kind++) {
            DUE.due("clashes(" + kind + ")", x.clashes(kind), want[kind]);
            sum += x.clashes(kind);
        }
        DUE.due("clashes(0)", x.clashes(0), want[0]);
        DUE.due("all kinds together", sum, want[0]);
        DUE.due("clashes(7)", x.clashes(7), -1);
        DUE.due("clashes(-1)", x.clashes(-1), -1);
    }

    private static void withoutThese() {
        GalleyMarks x = Due.with(GALLEY, "del 2 5;cap 4 6");
        x.hand(0);
        DUE.due("one with itself", x.clash(0, 1, 0, 1), -1);
        DUE.due("no such MARK", x.clash(0, 2, 0, 1), -1);
        DUE.due("no such other MARK", x.clash(0, 0, 0, 2), -1);
        DUE.due("no MARK of the HAND", x.clash(0, 0, 1, 0), -1);
        DUE.due("no such HAND", x.clash(2, 0, 0, 0), -1);
        DUE.due("below 0", x.clash(-1, 0, 0, 0), -1);
        DUE.due("number below 0", x.clash(0, 0, 0, -1), -1);
        DUE.due("none", new GalleyMarks().clashes(0), 0);
    }
}
