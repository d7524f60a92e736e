/** Promises 8 and 15 to 18: the language of LAWS with its FAULTS, WEIGHTS, and which MARKS stand. */
public final class LawTest {
    private static final Due DUE = new Due("LawTest");

    public static void main(String[] args) {
        words();
        sums();
        tests();
        clauses();
        signFaults();
        numberFaults();
        deepFaults();
        countFaults();
        clauseFaults();
        room();
        stands();
        open();
        sixtyFour();
        fellers();
        withoutThese();
        DUE.close();
    }

    /** Of the second MARK of HAND 1: rank 7, number 1, a cap (2) of 3 BYTES from PLACE 4 that two HANDS told. */
    private static GalleyMarks sheet() {
        GalleyMarks x = Due.with("abcdefghij", "cap 4 7");
        x.hand(7);
        Due.marks(x, 1, "ins 0 'xy';cap 4 7");
        return x;
    }

    private static void weight(String law, long want) {
        GalleyMarks x = sheet();
        DUE.due(law, Due.law(x, law), 0);
        DUE.due(law + " weighs", x.weight(0, 1, 1), want);
    }

    private static void words() {
        weight("stands rank", 7);
        weight("stands hand", 1);
        weight("stands number", 1);
        weight("stands kind", 2);
        weight("stands long", 3);
        weight("stands place", 4);
        weight("stands agree", 2);
        weight("stands 99999", 99999);
        weight("stands 00007", 7);
        GalleyMarks x = sheet();
        Due.law(x, "stands long");
        DUE.due("long of an ins", x.weight(0, 1, 0), 2);
    }

    private static void sums() {
        weight("stands 1+2*3", 7);
        weight("stands 2*3+1", 7);
        weight("stands 10-3-2", 5);
        weight("stands 100/7/2", 7);
        weight("stands 7/2*2", 6);
        weight("stands 1-8/3", -1);
        weight("stands 0-7/2", -3);
        weight("stands rank/0", 0);
        weight("stands 5/0+1", 1);
        weight("stands rank*rank-long*place", 37);
        weight(" stands  rank +  1 ", 8);
        weight("stands1", 1);
        weight("stands 99999*99999*99999*99999", 99999L * 99999 * 99999 * 99999);
        weight("stands 65536*32768*65536*65536/3", (65536L * 32768 * 65536 * 65536) / 3);
        weight("stands 0-7*rank/2", -24);
    }

    /** The TEST holds or does not. */
    private static void test(String test, boolean holds) {
        weight("stands 1 if " + test, holds ? 1 : 0);
    }

    private static void tests() {
        test("1<2", true);
        test("2<2", false);
        test("2<=2", true);
        test("3<=2", false);
        test("2=2", true);
        test("2=3", false);
        test("2>=2", true);
        test("1>=2", false);
        test("2>1", true);
        test("2>2", false);
        test("0-1<0", true);
        test("not 1=1", false);
        test("not not 1=1", true);
        test("not1=2", true);
        test("1=2 or 1=1", true);
        test("1=2 or 2=1", false);
        test("1=1 and 2=2", true);
        test("1=1 and 1=2", false);
        test("1=1 or 1=1 and 1=2", true);
        test("1=2 and 1=1 or 1=1", true);
        test("[1=1 or 1=1] and 1=2", false);
        test("1=2 and [1=1 or 1=1]", false);
        test("not 1=1 or 1=1", true);
        test("not [1=1 or 1=1]", false);
        test("not 1=1 and 1=2", false);
        test("not [1=1 and 1=2]", true);
        test("[ [ rank = 7 ] ]", true);
        test("rank+1>long*2 and agree=2", true);
        test("[[[[[[[[[[1=1]]]]]]]]]]", true);
        test("not not not not not not not not not not 1=1", true);
        test("[not[not[not[not[not 1=1]]]]]", false);
        test("[not[not[not[not[1=1]]]]]and[[[[[[[[[[1=1]]]]]]]]]]", true);
    }

    private static void clauses() {
        weight("stands 5 if rank=3;stands 6 if rank=7;stands 8", 6);
        weight("stands 5 if rank=3;stands 6 if rank=4;stands 8", 8);
        weight("stands 5 if rank=3;stands 6 if rank=4", 0);
        weight("stands 5 ; stands 6", 5);
        weight("stands 1 if 1=2;".repeat(11) + "stands 12", 12);
    }

    private static void fault(String law, int place, int kind) {
        GalleyMarks x = new GalleyMarks();
        DUE.due(law, Due.law(x, law), Due.fault(place, kind));
        DUE.due(law + " is no LAW", x.count(4), 0);
        DUE.due(law + " has gone from the TAPE", x.count(5), 0);
    }

    private static void signFaults() {
        fault("", 0, 0);
        fault("  ", 2, 0);
        fault("stand 1", 0, 0);
        fault("standss 1", 0, 0);
        fault("Stands 1", 0, 0);
        fault("stands", 6, 0);
        fault("stands if", 7, 0);
        fault("stands stands", 7, 0);
        fault("stands -1", 7, 0);
        fault("stands [1]", 7, 0);
        fault("stands 1+", 9, 0);
        fault("stands 1+ ", 10, 0);
        fault("stands 1++1", 9, 0);
        fault("stands 1 2", 9, 0);
        fault("stands ranks", 7, 0);
        fault("stands raNk", 7, 0);
        fault("stands rankif 1=1", 7, 0);
        fault("stands 1 iff 1=1", 9, 0);
        fault("stands 1 if", 11, 0);
        fault("stands 1 if 1", 13, 0);
        fault("stands 1 if 1=", 14, 0);
        fault("stands 1 if 1==1", 14, 0);
        fault("stands 1 if 1=<1", 14, 0);
        fault("stands 1 if 1< =1", 15, 0);
        fault("stands 1 if 1<>1", 14, 0);
        fault("stands 1 if and 1=1", 12, 0);
        fault("stands 1 if 1=1 and", 19, 0);
        fault("stands 1 if 1=1 andnot 1=1", 16, 0);
        fault("stands 1 if 1=1 or or", 19, 0);
        fault("stands 1 if not", 15, 0);
        fault("stands 1 if [1=1", 16, 0);
        fault("stands 1 if [1]", 14, 0);
        fault("stands 1 if []", 13, 0);
        fault("stands 1 if 1=1]", 15, 0);
        fault("stands 1 if 1=1=1", 15, 0);
        fault("stands 1 if [1=1]=1", 17, 0);
        fault("stands 1 if 1=1 if 1=1", 16, 0);
        fault("stands 1;", 9, 0);
        fault("stands 1;;stands 1", 9, 0);
        fault("stands 1 stands 1", 9, 0);
        fault("stands 1\n", 8, 0);
        fault("stands 1" + (char) 0, 8, 0);
        fault("stands " + (char) 250, 7, 0);
        fault("stands 1 if 1=1 and[", 20, 0);
    }

    private static void numberFaults() {
        fault("stands 100000", 7, 1);
        fault("stands 000001", 7, 1);
        fault("stands 1 if 1=123456", 14, 1);
        fault("stands 1+1234567890123", 9, 1);
    }

    private static void deepFaults() {
        fault("stands 1 if " + "[".repeat(11) + "1=1" + "]".repeat(11), 22, 2);
        fault("stands 1 if " + "not ".repeat(11) + "1=1", 52, 2);
        fault("stands 1 if " + "[not ".repeat(5) + "[1=1", 37, 2);
        fault("stands 1 if " + "[not ".repeat(5) + " not 1=1", 38, 2);
        fault("stands 1 if 1=1 or " + "[".repeat(12), 29, 2);
        fault("stands 1 if " + "[".repeat(10) + "1=1" + "]".repeat(9), 34, 0);
        GalleyMarks x = new GalleyMarks();
        DUE.due("10 deep, twice", Due.law(x, "stands 1 if " + "[".repeat(10) + "1=1" + "]".repeat(10) + " and "
            + "not ".repeat(10) + "1=1"), 0);
    }

    private static void countFaults() {
        String sixty = "stands 1" + "+1".repeat(59);
        GalleyMarks x = new GalleyMarks();
        DUE.due("60 VALUES", Due.law(x, sixty), 0);
        fault(sixty + "+1", 127, 3);
        fault(sixty + "+ 1", 128, 3);
        fault(sixty + "+rank", 127, 3);
        fault(sixty + "+oops", 127, 0);
        fault(sixty + "+123456", 127, 1);
        fault(sixty + "+", 127, 0);
        fault(sixty + ";stands 1", 134, 3);
        fault(sixty + ";stands", 133, 0);
        fault(sixty + " if 1=1", 130, 3);
        String fiftyNine = "stands 1" + "+1".repeat(58);
        fault(fiftyNine + " if 1=1", 129, 3);
        fault(fiftyNine + " if 1 <= 1", 130, 3);
        fault(fiftyNine + " if 1 oops", 130, 0);
        String fiftyEight = "stands 1" + "+1".repeat(57);
        fault(fiftyEight + " if 1=1", 128, 3);
        String fiftySeven = "stands 1" + "+1".repeat(56);
        DUE.due("60 with a FACT", Due.law(x, fiftySeven + " if 1=1"), 1);
        fault(fiftySeven + " if 1=1 and 1=1", 132, 3);
        fault(fiftySeven + " if 1=1;stands 1", 135, 3);
        DUE.due("brackets do not count", Due.law(x, fiftySeven + " if [not [1=1]]"), 2);
    }

    private static void clauseFaults() {
        String twelve = "stands 1;".repeat(11) + "stands 1";
        GalleyMarks x = new GalleyMarks();
        DUE.due("12 CLAUSES", Due.law(x, twelve), 0);
        fault(twelve + ";stands 1", 108, 4);
        fault(twelve + "; stands", 109, 4);
        fault(twelve + ";stand 1", 108, 0);
        fault(twelve + ";", 108, 0);
        fault(twelve + ";stands 123456", 108, 4);
    }

    private static void room() {
        GalleyMarks x = new GalleyMarks();
        for (int i = 0; i < 4; i++) {
            DUE.due("law " + i, Due.law(x, "stands " + (i + 1)), i);
        }
        Due.tell(x, "stands 5");
        DUE.due("law 4", x.law(), -1);
        DUE.due("the TAPE stays", x.count(5), 8);
        DUE.due("count(4)", x.count(4), 4);
        x.hand(0);
        x.end(0);
        Due.marks(x, 0, "ins 0 'a'");
        for (int i = 0; i < 4; i++) {
            DUE.due("weight by law " + i, x.weight(i, 0, 0), i + 1);
        }
    }

    private static void state(GalleyMarks x, int law, int hand, int k, int want) {
        DUE.due("stands(" + law + ", " + hand + ", " + k + ")", x.stands(law, hand, k), want);
    }

    private static void stands() {
        GalleyMarks x = Due.with("abcdefghij", "del 2 5;cap 0 1");
        x.hand(8);
        Due.marks(x, 1, "cap 4 8;low 7 8");
        Due.law(x, "stands rank");
        // by rank the cap and the low of HAND 1 are OPEN, so that the del stands
        state(x, 0, 1, 0, 2);
        state(x, 0, 1, 1, 2);
        state(x, 0, 0, 0, 1);
        state(x, 0, 0, 1, 1);
        Due.law(x, "stands 0-number");
        // the del and the cap are OPEN, the low stands: it meets none that stands
        state(x, 1, 0, 0, 2);
        state(x, 1, 1, 0, 2);
        state(x, 1, 1, 1, 1);
        Due.law(x, "stands 10*hand+number");
        // the low stands, the cap falls by it, the del stands
        state(x, 2, 1, 1, 1);
        state(x, 2, 1, 0, 0);
        state(x, 2, 0, 0, 1);
        DUE.due("many(2, 0)", x.many(2, 0), 1);
        DUE.due("many(2, 1)", x.many(2, 1), 3);
        DUE.due("many(2, 2)", x.many(2, 2), 0);
        DUE.due("many(0, 2)", x.many(0, 2), 2);
        Due.marks(x, 0, "low 0 1");
        state(x, 2, 0, 2, 1);
        state(x, 2, 0, 1, 0);
        DUE.due("many(2, 0) behind one more", x.many(2, 0), 2);
    }

    private static void open() {
        // of one WEIGHT, what FALLS by a heavier one leaves the others free to stand
        GalleyMarks x = Due.with("abcdefghij", "del 0 3;cap 2 5;low 4 6");
        Due.law(x, "stands 9 if number=0;stands 1");
        state(x, 0, 0, 0, 1);
        state(x, 0, 0, 1, 0);
        state(x, 0, 0, 2, 1);
        // WEIGHTS go below 0
        Due.law(x, "stands 0-1 if kind=1;stands 0-2 if kind=2;stands 0-3");
        state(x, 1, 0, 0, 1);
        state(x, 1, 0, 1, 0);
        state(x, 1, 0, 2, 1);
    }

    private static void sixtyFour() {
        GalleyMarks x = new GalleyMarks();
        Due.galley(x, "abc");
        String sixteen = "cap 0 1;low 0 1;".repeat(7) + "cap 0 1;low 0 1";
        for (int hand = 0; hand < 4; hand++) {
            x.hand(hand);
            DUE.due("marks", Due.marks(x, hand, sixteen), 16);
        }
        Due.law(x, "stands hand*16+number");
        DUE.due("every low stands", x.many(0, 1), 32);
        DUE.due("every cap FALLS", x.many(0, 0), 32);
        DUE.due("the lightest", x.falls(0, 0, 0), 1);
        DUE.due("the heaviest", x.stands(0, 3, 15), 1);
        DUE.due("its WEIGHT", x.weight(0, 3, 15), 63);
        DUE.due("clashes", x.clashes(2), 32 * 32);
        DUE.due("AGREE", x.mark(3, 15, 5), 4);
    }

    private static void fellers() {
        GalleyMarks x = Due.with("abcdefghij", "cap 0 1;del 2 5");
        x.hand(8);
        x.hand(9);
        Due.marks(x, 1, "stet 3 4;cap 6 8");
        Due.marks(x, 2, "cap 4 5;low 7 8;ins 9 'x'");
        Due.law(x, "stands hand");
        DUE.due("the first of the least HAND", x.falls(0, 0, 1), 16);
        DUE.due("by a MARK of HAND 2", x.falls(0, 1, 1), 33);
        DUE.due("it stands", x.falls(0, 0, 0), -2);
        DUE.due("it stands, too", x.falls(0, 2, 2), -2);
        Due.law(x, "stands 1");
        DUE.due("it is OPEN", x.falls(1, 0, 1), -2);
    }

    private static void withoutThese() {
        GalleyMarks x = Due.with("abc", "del 0 1");
        Due.law(x, "stands 3");
        DUE.due("weight", x.weight(0, 0, 0), 3);
        int[][] wrong = {{1, 0, 0}, {-1, 0, 0}, {4, 0, 0}, {0, 1, 0}, {0, -1, 0}, {0, 4, 0}, {0, 0, 1}, {0, 0, -1}, {0, 0, 16}};
        for (int[] w : wrong) {
            String of = "(" + w[0] + ", " + w[1] + ", " + w[2] + ")";
            DUE.due("weight" + of, x.weight(w[0], w[1], w[2]), 0);
            DUE.due("stands" + of, x.stands(w[0], w[1], w[2]), -1);
            DUE.due("falls" + of, x.falls(w[0], w[1], w[2]), -1);
        }
        DUE.due("many(1, 0)", x.many(1, 0), -1);
        DUE.due("many(-1, 0)", x.many(-1, 0), -1);
        DUE.due("many(0, 3)", x.many(0, 3), -1);
        DUE.due("many(0, -1)", x.many(0, -1), -1);
    }
}
