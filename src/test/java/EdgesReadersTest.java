/** Sentence by sentence, at the boundary and just beyond it: promises 29 and 30, UNSEEN and RATE. */
public final class EdgesReadersTest {
    private static final Due DUE = new Due("EdgesReadersTest");
    private static final int LEAST = Integer.MIN_VALUE;
    private static final int MOST = Integer.MAX_VALUE;
    private static final String GALLEY = "abcdefghijklmnopqrstuvwxyzabcdefghijklmnopqrstuvwxyz";

    public static void main(String[] args) {
        unseen();
        lowestTerms();
        ofKinds();
        once();
        mostMarks();
        noneSeenByBoth();
        noSuchUnseen();
        rates();
        noneTold();
        noSuchRate();
        DUE.close();
    }

    private static final String UNSEEN = "UNSEEN by two HANDS, of a kind (6: all): a: MARKS of the one that are ALIKE none of the other, b: of the other "
        + "likewise, c: those of the one that are ALIKE one of the other (ALIKE ones of one HAND once): a * b by c, in lowest terms; none if c is 0.";
    private static final String RATE = "RATE of a HAND: of all MARKS (ALIKE ones once) that other HANDS told, how many it has told, too, in lowest terms; "
        + "none if there are none.";

    /** So many dels of one BYTE, from a PLACE on. */
    private static String dels(int from, int count) {
        StringBuilder marks = new StringBuilder();
        for (int i = from; i < from + count; i++) {
            marks.append(i == from ? "" : ";").append("del ").append(i).append(' ').append(i + 1);
        }
        return marks.toString();
    }

    private static void part(GalleyMarks x, int kind, int above, int below) {
        DUE.due("above, of kind " + kind, x.unseen(0, 1, kind, 0), above);
        DUE.due("below, of kind " + kind, x.unseen(0, 1, kind, 1), below);
        DUE.due("above the other way, of kind " + kind, x.unseen(1, 0, kind, 0), above);
        DUE.due("below the other way, of kind " + kind, x.unseen(1, 0, kind, 1), below);
    }

    /** HANDS that have so many alone and so many together. */
    private static GalleyMarks shared(int one, int other, int both) {
        String shared = both == 0 ? "" : dels(0, both);
        String first = shared + (both > 0 && one > 0 ? ";" : "") + (one == 0 ? "" : dels(20, one));
        String second = (other == 0 ? "" : dels(36, other)) + (both > 0 && other > 0 ? ";" : "") + shared;
        return Due.hands(GALLEY, first, second);
    }

    private static void unseen() {
        DUE.sentence(0, UNSEEN);
        part(shared(0, 0, 1), 6, 0, 1);
        part(shared(0, 5, 3), 6, 0, 1);
        part(shared(5, 0, 3), 6, 0, 1);
        part(shared(1, 1, 1), 6, 1, 1);
        part(shared(3, 2, 1), 6, 6, 1);
        part(shared(3, 2, 5), 6, 6, 5);
        DUE.sentence(29, "UNSEEN part 0: above the line, 1: below it;");
        part(shared(1, 1, 15), 6, 1, 15);
        part(shared(15, 15, 1), 6, 225, 1);
    }

    private static void lowestTerms() {
        DUE.sentence(0, UNSEEN);
        part(shared(2, 3, 4), 6, 3, 2);
        part(shared(2, 2, 4), 6, 1, 1);
        part(shared(2, 3, 12), 6, 1, 2);
        part(shared(4, 4, 12), 6, 4, 3);
        part(shared(3, 5, 7), 6, 15, 7);
        part(shared(8, 8, 8), 6, 8, 1);
        part(shared(0, 0, 16), 6, 0, 1);
        part(shared(10, 10, 6), 6, 50, 3);
    }

    private static void ofKinds() {
        DUE.sentence(0, UNSEEN);
        String[] kinds = {"ins 4 'x'", "del 4 5", "cap 4 5", "low 4 5", "move 4 5 6", "stet 4 5"};
        for (int kind = 0; kind < 6; kind++) {
            GalleyMarks x = Due.hands(GALLEY, kinds[kind] + ";ins 9 'y'", kinds[kind] + ";ins 9 'z'");
            part(x, 6, 1, 1);
            for (int of = 0; of < 6; of++) {
                int seen = kind == of ? kind == 0 ? 1 : 0 : -2;
                part(x, of, seen, seen == -2 ? -2 : 1);
            }
        }
    }

    private static void once() {
        DUE.sentence(0, UNSEEN);
        part(Due.hands(GALLEY, "del 0 1;del 0 1;cap 1 2;cap 1 2", "low 3 4;del 0 1;low 3 4;del 0 1;del 0 1"), 6, 1, 1);
        part(Due.hands(GALLEY, "del 0 1;cap 1 2;cap 1 2;cap 1 3", "low 3 4;del 0 1"), 6, 2, 1);
        part(Due.hands("a b", "close 1;swap 0 1 3", "move 0 1 3;del 1 2;ins 0 'x'"), 6, 0, 1);
        // another HAND's MARKS are none of the two's
        GalleyMarks x = Due.hands(GALLEY, "del 0 1;cap 1 2", "del 0 1;low 1 2", "cap 1 2;low 1 2");
        part(x, 6, 1, 1);
        DUE.due("by another two", x.unseen(0, 2, 6, 1), 1);
        DUE.due("by the last two", x.unseen(2, 1, 6, 0), 1);
    }

    private static void mostMarks() {
        DUE.sentence(29, "UNSEEN part 0: above the line, 1: below it;");
        GalleyMarks x = Due.hands(GALLEY, "", "", dels(0, 16), dels(15, 16));
        DUE.due("above", x.unseen(2, 3, 1, 0), 225);
        DUE.due("below", x.unseen(2, 3, 1, 1), 1);
    }

    private static void noneSeenByBoth() {
        DUE.sentence(29, "-2: none;");
        part(shared(0, 0, 0), 6, -2, -2);
        part(shared(3, 0, 0), 6, -2, -2);
        part(shared(3, 4, 0), 6, -2, -2);
        part(shared(3, 4, 1), 0, -2, -2);
        part(shared(3, 4, 1), 1, 12, 1);
    }

    private static void noSuchUnseen() {
        DUE.sentence(29, "NONE without these (HANDS unlike, kind 0 to 6).");
        GalleyMarks x = shared(3, 4, 1);
        int[][] wrong = {{0, 0, 6, 0}, {1, 1, 6, 0}, {0, 2, 6, 0}, {2, 0, 6, 0}, {2, 2, 6, 0}, {0, 4, 6, 0}, {4, 0, 6, 0}, {-1, 0, 6, 0}, {0, -1, 6, 0},
            {LEAST, 0, 6, 0}, {0, LEAST, 6, 0}, {MOST, 0, 6, 0}, {0, MOST, 6, 0}, {0, 1, 7, 0}, {0, 1, -1, 0}, {0, 1, LEAST, 0}, {0, 1, MOST, 0},
            {0, 1, 6, 2}, {0, 1, 6, -1}, {0, 1, 6, LEAST}, {0, 1, 6, MOST}};
        for (int[] w : wrong) {
            DUE.due("unseen(" + w[0] + ", " + w[1] + ", " + w[2] + ", " + w[3] + ")", x.unseen(w[0], w[1], w[2], w[3]), -1);
        }
        // without these also where there is none
        GalleyMarks y = shared(0, 0, 0);
        DUE.due("part 2", y.unseen(0, 1, 6, 2), -1);
        DUE.due("kind 7", y.unseen(0, 1, 7, 0), -1);
        DUE.due("the same HAND", y.unseen(1, 1, 6, 0), -1);
    }

    private static void rate(GalleyMarks x, int hand, int above, int below) {
        DUE.due("rate(" + hand + ", 0)", x.rate(hand, 0), above);
        DUE.due("rate(" + hand + ", 1)", x.rate(hand, 1), below);
    }

    private static void rates() {
        DUE.sentence(0, RATE);
        DUE.sentence(30, "RATE part 0: above the line, 1: below it;");
        GalleyMarks x = Due.hands(GALLEY, dels(0, 16), dels(0, 16));
        rate(x, 0, 1, 1);
        GalleyMarks y = Due.hands(GALLEY, dels(0, 4), dels(2, 4), dels(4, 4), "");
        // HAND 0 has 2 and 3 of 2 to 7; HAND 1 all its four of 0 to 7; HAND 2 has 4 and 5 of 0 to 5
        rate(y, 0, 1, 3);
        rate(y, 1, 1, 2);
        rate(y, 2, 1, 3);
        rate(y, 3, 0, 1);
        // ALIKE ones once, of one HAND and of several, and what it tells alone counts nothing
        GalleyMarks z = Due.hands(GALLEY, "del 0 1;del 9 10;del 10 11", "del 0 1;del 0 1;del 1 2", "del 0 1;del 1 2;del 1 2;del 2 3");
        rate(z, 0, 1, 3);
        rate(z, 1, 2, 5);
        rate(Due.hands(GALLEY, "del 0 1", "cap 0 1"), 0, 0, 1);
        rate(Due.hands(GALLEY, "", dels(0, 16), dels(16, 16), dels(32, 16)), 0, 0, 1);
        rate(Due.hands(GALLEY, "del 40 41", dels(0, 16), dels(16, 16), dels(32, 16)), 0, 1, 48);
        rate(Due.hands("a b", "close 1;move 0 1 3", "del 1 2", "swap 0 1 3"), 0, 1, 1);
    }

    private static void noneTold() {
        DUE.sentence(30, "-2: none;");
        rate(Due.hands(GALLEY, ""), 0, -2, -2);
        rate(Due.hands(GALLEY, "del 0 1"), 0, -2, -2);
        rate(Due.hands(GALLEY, "del 0 1", ""), 0, -2, -2);
        rate(Due.hands(GALLEY, "del 0 1", ""), 1, 0, 1);
        rate(Due.hands(GALLEY, "", "", "", "del 0 1"), 3, -2, -2);
    }

    private static void noSuchRate() {
        DUE.sentence(30, "NONE without these.");
        GalleyMarks x = shared(3, 4, 1);
        int[][] wrong = {{2, 0}, {3, 0}, {4, 0}, {-1, 0}, {LEAST, 0}, {MOST, 0}, {0, 2}, {0, -1}, {0, LEAST}, {0, MOST}};
        for (int[] w : wrong) {
            DUE.due("rate(" + w[0] + ", " + w[1] + ")", x.rate(w[0], w[1]), -1);
        }
        DUE.due("rate(1, 1)", x.rate(1, 1), 4);
        DUE.due("part 2 where there is none", Due.hands(GALLEY, "").rate(0, 2), -1);
    }
}
