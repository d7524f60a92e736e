/** Sentence by sentence, at the boundary and just beyond it: promises 15 to 18, which MARKS stand, FALL or are OPEN by a LAW. */
public final class EdgesStandsTest {
    private static final Due DUE = new Due("EdgesStandsTest");
    private static final int LEAST = Integer.MIN_VALUE;
    private static final int MOST = Integer.MAX_VALUE;
    private static final String GALLEY = "abcdefghijkl";
    private static final String LOWEST = "32768*32768*32768*32768*8";

    public static void main(String[] args) {
        heaviestFirst();
        byThoseThatStandAlready();
        openOfOneWeight();
        extremeWeights();
        sixtyFourWeights();
        weights();
        withoutAWeight();
        states();
        withoutAState();
        fellers();
        notFallen();
        withoutAFeller();
        howMany();
        withoutACount();
        DUE.close();
    }

    private static final String ORDER = "By a LAW, of MARKS of the greatest WEIGHT first, then of the next one, and so on: one FALLS if it has a "
        + "CLASH with one that stands already; of those left one is OPEN if it has a CLASH with another one left of the same WEIGHT; all others of "
        + "them stand.";

    /** The states of the MARKS of HAND 0, one digit each. */
    private static void states(String marks, String law, String want) {
        GalleyMarks x = Due.with(GALLEY, marks);
        DUE.due("law of " + law, Due.law(x, law), 0);
        StringBuilder got = new StringBuilder();
        for (int k = 0; k < want.length(); k++) {
            got.append(x.stands(0, 0, k));
        }
        DUE.same(marks + " by " + law, got.toString(), want);
    }

    /** As many MARKS as there can be, each of a WEIGHT of its own: the last of them is decided, too. */
    private static void sixtyFourWeights() {
        DUE.sentence(0, ORDER);
        String sixteen = "cap 0 1;".repeat(15) + "cap 0 1";
        GalleyMarks x = Due.hands(GALLEY, sixteen, sixteen, sixteen, "cap 0 1;".repeat(15) + "del 0 1");
        Due.law(x, "stands 99-16*hand-number");
        Due.law(x, "stands 16*hand+number");
        DUE.due("the least WEIGHT", x.weight(0, 3, 15), 36);
        DUE.due("the lightest of 64 FALLS", x.stands(0, 3, 15), 0);
        DUE.due("by the first", x.falls(0, 3, 15), 0);
        DUE.due("one FALLS", x.many(0, 0), 1);
        DUE.due("63 stand", x.many(0, 1), 63);
        DUE.due("the heaviest of 64 stands", x.stands(1, 3, 15), 1);
        DUE.due("the lightest FALLS", x.stands(1, 0, 0), 0);
        DUE.due("63 FALL", x.many(1, 0), 63);
        DUE.due("one stands", x.many(1, 1), 1);
    }

    private static void heaviestFirst() {
        DUE.sentence(0, ORDER);
        states("del 0 2;cap 1 3", "stands number", "01");
        states("del 0 2;cap 1 3", "stands 0-number", "10");
        states("del 0 2;cap 1 3", "stands 7", "22");
        states("del 0 2;cap 2 3", "stands 7", "11");
        states("del 0 2", "stands 7", "1");
        states("del 0 2;cap 1 3;low 2 4", "stands number", "101");
        states("del 0 2;cap 1 3;low 2 4", "stands 0-number", "101");
        // one step of WEIGHT parts them
        states("del 0 2;cap 1 3", "stands 99999 if number=0;stands 99998", "10");
        states("del 0 2;cap 1 3", "stands 99999 if number=1;stands 99998", "01");
    }

    private static void byThoseThatStandAlready() {
        DUE.sentence(0, ORDER);
        // the first FALLS, so that the third, which has a CLASH with it alone, stands
        states("cap 1 3;del 0 2;low 2 4", "stands 2 if number=0;stands 3 if number=1;stands 1", "011");
        // what is OPEN lets no lighter one FALL
        states("del 0 2;cap 1 3;low 2 4", "stands 2 if number<2;stands 1", "221");
        // of the same WEIGHT as one that FALLS
        states("del 0 2;cap 1 3;low 2 4", "stands 2 if number=0;stands 1", "101");
        // a lighter one FALLS by any of those that stand
        states("del 0 1;del 5 6;cap 0 9", "stands 2 if number<2;stands 1", "110");
    }

    private static void openOfOneWeight() {
        DUE.sentence(0, ORDER);
        states("del 0 2;cap 1 3;low 2 4", "stands 5", "222");
        states("del 0 2;cap 1 3;low 3 4", "stands 5", "221");
        states("ins 3 'x';ins 3 'y';ins 3 'x'", "stands 5", "222");
        states("ins 3 'x';ins 3 'x';ins 3 'x'", "stands 5", "111");
        states("ins 3 'x';ins 3 'y';ins 3 'x'", "stands 6 if number=0;stands 5", "101");
    }

    private static void extremeWeights() {
        DUE.sentence(0, ORDER);
        states("del 0 2;cap 1 3", "stands " + LOWEST + " if number=0;stands 1", "01");
        states("del 0 2;cap 1 3", "stands " + LOWEST + "-1 if number=0;stands " + LOWEST, "10");
        states("del 0 2;cap 1 3", "stands " + LOWEST + " if number=0;stands " + LOWEST + "+1", "01");
        states("del 0 2;cap 1 3", "stands " + LOWEST, "22");
        states("del 0 2;cap 1 3", "stands 0-1 if number=0;stands 0", "01");
        // 2^32 is more than 0
        states("del 0 2;cap 1 3", "stands 65536*65536 if number=0;stands 0", "10");
        states("del 0 2;cap 1 3", "stands 65536*32768 if number=0;stands 1", "10");
    }

    private static void weights() {
        DUE.sentence(15, "WEIGHT of a MARK by a LAW;");
        GalleyMarks x = Due.hands(GALLEY, "del 0 1", "", "", "del 0 1;".repeat(15) + "cap 0 1");
        Due.law(x, "stands hand*16+number");
        Due.law(x, "stands kind");
        Due.law(x, "stands 7 if number=15");
        Due.law(x, "stands " + LOWEST);
        DUE.due("the first MARK", x.weight(0, 0, 0), 0);
        DUE.due("the last MARK", x.weight(0, 3, 15), 63);
        DUE.due("by the second LAW", x.weight(1, 3, 15), 2);
        DUE.due("by the third LAW", x.weight(2, 3, 15), 7);
        DUE.due("by the third LAW, another one", x.weight(2, 3, 14), 0);
        DUE.due("by the last LAW", x.weight(3, 3, 15), Long.MIN_VALUE);
    }

    private static final int[][] WITHOUT = {{1, 0, 0}, {2, 0, 0}, {3, 0, 0}, {4, 0, 0}, {-1, 0, 0}, {LEAST, 0, 0}, {MOST, 0, 0}, {0, 2, 0},
        {0, 3, 0}, {0, 4, 0}, {0, -1, 0}, {0, -1, 16}, {0, LEAST, 0}, {0, MOST, 0}, {0, 0, 2}, {0, 0, 15}, {0, 0, 16}, {0, 0, -1}, {0, 0, LEAST},
        {0, 0, MOST}, {0, 1, 1}, {0, 1, -16}, {0, 1, -15}};

    private static GalleyMarks small() {
        GalleyMarks x = Due.hands(GALLEY, "del 0 2;cap 1 3", "low 2 4");
        Due.law(x, "stands 9-number");
        return x;
    }

    private static String told(String call, int[] w) {
        return call + "(" + w[0] + ", " + w[1] + ", " + w[2] + ")";
    }

    private static void withoutAWeight() {
        DUE.sentence(15, "0 also without these.");
        GalleyMarks x = small();
        for (int[] w : WITHOUT) {
            DUE.due(told("weight", w), x.weight(w[0], w[1], w[2]), 0);
        }
        DUE.due("weight(0, 1, 0)", x.weight(0, 1, 0), 9);
        Due.galley(x, GALLEY);
        DUE.due("of a MARK that is gone", x.weight(0, 1, 0), 0);
    }

    private static void states() {
        DUE.sentence(16, "0: a MARK FALLS, 1: it stands, 2: it is OPEN;");
        GalleyMarks x = Due.hands(GALLEY, "del 0 2;cap 1 3", "low 6 8", "cap 7 9", "del 0 1;".repeat(15) + "del 11 12");
        Due.law(x, "stands 9-number if hand=0;stands 1");
        DUE.due("it stands", x.stands(0, 0, 0), 1);
        DUE.due("it FALLS", x.stands(0, 0, 1), 0);
        DUE.due("it is OPEN", x.stands(0, 1, 0), 2);
        DUE.due("and so is the other", x.stands(0, 2, 0), 2);
        DUE.due("the last one", x.stands(0, 3, 15), 1);
    }

    private static void withoutAState() {
        DUE.sentence(16, "NONE without these.");
        GalleyMarks x = small();
        for (int[] w : WITHOUT) {
            DUE.due(told("stands", w), x.stands(w[0], w[1], w[2]), -1);
        }
        DUE.due("stands(0, 1, 0)", x.stands(0, 1, 0), 1);
        Due.galley(x, GALLEY);
        DUE.due("of a MARK that is gone", x.stands(0, 1, 0), -1);
    }

    private static void fellers() {
        DUE.sentence(17, "By which MARK one FALLS: of those that stand with which it has a CLASH the first of the least HAND, 16 * HAND + its number;");
        GalleyMarks x = Due.hands(GALLEY, "ins 0 'x';cap 0 1;cap 1 2", "cap 2 3", "", "ins 9 'x';".repeat(14) + "del 0 3;cap 11 12");
        Due.law(x, "stands 9-hand");
        DUE.due("by the first of the least HAND", x.falls(0, 3, 14), 1);
        Due.law(x, "stands hand");
        DUE.due("by one of HAND 3", x.falls(1, 0, 1), 48 + 14);
        GalleyMarks later = Due.hands(GALLEY, "cap 6 7;ins 0 'x'", "ins 0 'x';cap 2 3", "cap 0 1", "del 0 3");
        Due.law(later, "stands 9-hand");
        DUE.due("of a later HAND, not its first", later.falls(0, 3, 0), 16 + 1);
        GalleyMarks last = Due.hands(GALLEY, "low 0 1", "", "", "ins 9 'x';".repeat(15) + "cap 0 2");
        Due.law(last, "stands hand");
        DUE.due("by the last MARK of all", last.falls(0, 0, 0), 63);
        Due.law(last, "stands 9-hand");
        DUE.due("by the first MARK of all", last.falls(1, 3, 15), 0);
        // one that is OPEN or FALLS is none of those that stand
        GalleyMarks y = Due.hands(GALLEY, "low 0 1;cap 0 1", "ins 5 'x';del 0 2", "stet 0 2");
        Due.law(y, "stands 3 if hand=0;stands hand");
        DUE.due("the low is OPEN", y.stands(0, 0, 0), 2);
        DUE.due("the stet stands", y.stands(0, 2, 0), 1);
        DUE.due("the del FALLS by it", y.falls(0, 1, 1), 32);
        // of all that stand, also of those of less WEIGHT: they stand as well
        GalleyMarks z = Due.hands(GALLEY, "cap 5 6", "del 4 6", "cap 4 5");
        Due.law(z, "stands hand");
        DUE.due("the del FALLS", z.stands(0, 1, 0), 0);
        DUE.due("the lighter cap stands", z.stands(0, 0, 0), 1);
        DUE.due("the first of the least HAND", z.falls(0, 1, 0), 0);
    }

    private static void notFallen() {
        DUE.sentence(17, "-2: it does not FALL;");
        GalleyMarks x = Due.hands(GALLEY, "del 0 2;cap 1 3", "low 6 8", "cap 7 9");
        Due.law(x, "stands 9-number if hand=0;stands 1");
        DUE.due("it stands", x.falls(0, 0, 0), -2);
        DUE.due("it FALLS by MARK 0", x.falls(0, 0, 1), 0);
        DUE.due("it is OPEN", x.falls(0, 1, 0), -2);
        DUE.due("it is OPEN, too", x.falls(0, 2, 0), -2);
    }

    private static void withoutAFeller() {
        DUE.sentence(17, "NONE without these.");
        GalleyMarks x = small();
        for (int[] w : WITHOUT) {
            DUE.due(told("falls", w), x.falls(w[0], w[1], w[2]), -1);
        }
        DUE.due("falls(0, 1, 0)", x.falls(0, 1, 0), -2);
    }

    private static void howMany() {
        DUE.sentence(18, "How many MARKS by a LAW 0: FALL, 1: stand, 2: are OPEN;");
        GalleyMarks none = Due.hands(GALLEY);
        Due.law(none, "stands 1");
        for (int what = 0; what < 3; what++) {
            DUE.due("of none", none.many(0, what), 0);
        }
        String sixteen = "cap 0 1;low 0 1;".repeat(7) + "cap 0 1;low 0 1";
        GalleyMarks x = Due.hands(GALLEY, sixteen, sixteen, sixteen, sixteen);
        Due.law(x, "stands kind");
        Due.law(x, "stands 1");
        int[][] want = {{32, 32, 0}, {0, 0, 64}};
        for (int law = 0; law < 2; law++) {
            for (int what = 0; what < 3; what++) {
                DUE.due("many(" + law + ", " + what + ") of 64", x.many(law, what), want[law][what]);
            }
        }
        GalleyMarks same = Due.hands(GALLEY, "del 0 1", "del 0 1", "del 0 1;del 0 1");
        Due.law(same, "stands hand");
        DUE.due("ALIKE ones each", same.many(0, 1), 4);
    }

    private static void withoutACount() {
        DUE.sentence(18, "NONE without these.");
        GalleyMarks x = small();
        int[][] wrong = {{1, 0}, {3, 0}, {4, 0}, {-1, 0}, {LEAST, 0}, {MOST, 0}, {0, 3}, {0, 4}, {0, -1}, {0, LEAST}, {0, MOST}};
        for (int[] w : wrong) {
            DUE.due("many(" + w[0] + ", " + w[1] + ")", x.many(w[0], w[1]), -1);
        }
        DUE.due("many(0, 2)", x.many(0, 2), 0);
        DUE.due("many(0, 0)", x.many(0, 0), 1);
        DUE.due("many(0, 1)", x.many(0, 1), 2);
    }
}
