/** Sentence by sentence, at the boundary and just beyond it: promises 8 and 15 to 18, and the language of LAWS. */
public final class EdgesLawTest {
    private static final Due DUE = new Due("EdgesLawTest");
    private static final int LEAST = Integer.MIN_VALUE;
    private static final int MOST = Integer.MAX_VALUE;
    /** The least number of 64 bits, told as a TERM. */
    private static final String LOWEST = "32768*32768*32768*32768*8";

    public static void main(String[] args) {
        atMost400();
        clauses();
        partsOfTests();
        facts();
        signs();
        sums();
        numbers();
        words();
        wordsOfMarks();
        divisions();
        wrapAround();
        blanks();
        tenDeep();
        sixty();
        faultOfSigns();
        faultOfNumbers();
        faultOfDepth();
        faultOfCount();
        faultOfClauses();
        leastOfOnePlace();
        firstClause();
        taken();
        refused();
        nothingLeft();
        fourLaws();
        DUE.close();
    }

    /** Of the second MARK of HAND 1: rank 7, number 1, a cap (2) of 3 BYTES from PLACE 4 that two HANDS told. */
    private static GalleyMarks sheet() {
        GalleyMarks x = Due.with("abcdefghij", "cap 4 7");
        x.hand(7);
        Due.marks(x, 1, "ins 0 'xy';cap 4 7");
        return x;
    }

    private static void weight(String law, long want) {
        GalleyMarks x = sheet();
        DUE.due("law of " + law, Due.law(x, law), 0);
        DUE.due("WEIGHT by " + law, x.weight(0, 1, 1), want);
    }

    private static void test(String test, boolean holds) {
        weight("stands 5 if " + test, holds ? 5 : 0);
    }

    private static void fault(String law, int place, int kind) {
        GalleyMarks x = sheet();
        DUE.due("law of " + law, Due.law(x, law), Due.fault(place, kind));
        DUE.due("LAWS behind " + law, x.count(4), 0);
        DUE.due("TAPE behind " + law, x.count(5), 0);
        DUE.due("OUT by no LAW behind " + law, x.out(0), -1);
    }

    private static String of(int sign) {
        return String.valueOf((char) sign);
    }

    private static void atMost400() {
        DUE.sentence(0, "LAWS 0 to 3: texts of at most 400 bytes.");
        weight("stands 6" + " ".repeat(392), 6);
        weight(" ".repeat(392) + "stands 6", 6);
        fault("stands 6" + " ".repeat(391) + ";", 400, 0);
        fault("stands 6" + " ".repeat(391) + "x", 399, 0);
        fault(" ".repeat(400), 400, 0);
        String first = "stands rank+1 if " + "not[".repeat(5) + "1=2" + "]".repeat(5) + " and 1=2 or 2=3";
        String second = ";stands long";
        String full = first + " ".repeat(400 - first.length() - second.length()) + second;
        DUE.due("bytes", full.length(), 400);
        weight(full, 3);
    }

    private static void clauses() {
        DUE.sentence(0, "CLAUSE { ; CLAUSE }, 12 at most: stands SUM [ if TEST ].");
        weight("stands 4", 4);
        weight("stands 4 if 1=1", 4);
        for (int clauses = 1; clauses <= 12; clauses++) {
            weight("stands 1 if 1=2;".repeat(clauses - 1) + "stands " + clauses, clauses);
        }
        fault("stands 1;".repeat(12) + "stands 1", 108, 4);
        fault("stands", 6, 0);
        fault("stands if 1=1", 7, 0);
        fault("stands 1 if", 11, 0);
        fault("if 1=1", 0, 0);
        fault("stands 1 if 1=1 if 1=1", 16, 0);
        fault("stands [1]", 7, 0);
        fault("stands 1 [if 1=1]", 9, 0);
    }

    private static void partsOfTests() {
        DUE.sentence(0, "TEST: PART { or PART }. PART: FACT { and FACT }.");
        String[] values = {"1=2", "1=1"};
        for (int bits = 0; bits < 8; bits++) {
            boolean a = (bits & 4) != 0;
            boolean b = (bits & 2) != 0;
            boolean c = (bits & 1) != 0;
            String one = values[a ? 1 : 0];
            String two = values[b ? 1 : 0];
            String three = values[c ? 1 : 0];
            test(one + " or " + two + " or " + three, a || b || c);
            test(one + " and " + two + " and " + three, a && b && c);
            test(one + " or " + two + " and " + three, a || b && c);
            test(one + " and " + two + " or " + three, a && b || c);
            test("[" + one + " or " + two + "] and " + three, (a || b) && c);
            test(one + " and [" + two + " or " + three + "]", a && (b || c));
            test("not " + one + " or " + two, !a || b);
            test("not " + one + " and " + two, !a && b);
            test("not [" + one + " or " + two + " and not " + three + "]", !(a || b && !c));
        }
        fault("stands 1 if 1=1 or", 18, 0);
        fault("stands 1 if 1=1 and", 19, 0);
        fault("stands 1 if or 1=1", 12, 0);
        fault("stands 1 if and 1=1", 12, 0);
        fault("stands 1 if 1=1 or and 1=1", 19, 0);
        fault("stands 1 if 1=1 orr 1=1", 16, 0);
        fault("stands 1 if 1=1 an 1=1", 16, 0);
    }

    private static void facts() {
        DUE.sentence(0, "FACT: not FACT | [ TEST ] (these brackets are signs) | SUM SIGN SUM, SIGN one of < <= = >= >.");
        test("[1=1]", true);
        test("[1=2]", false);
        test("not 1=2", true);
        test("not[1=1]", false);
        test("not not 1=1", true);
        test("[not 1=2]", true);
        fault("stands 1 if []", 13, 0);
        fault("stands 1 if [1=1", 16, 0);
        fault("stands 1 if [1=1;", 16, 0);
        fault("stands 1 if 1=1]", 15, 0);
        fault("stands 1 if [1]=1", 14, 0);
        fault("stands 1 if [1=1]=1", 17, 0);
        fault("stands 1 if (1=1)", 12, 0);
        fault("stands 1 if not", 15, 0);
        fault("stands 1 if nott 1=1", 12, 0);
        fault("stands 1 if 1", 13, 0);
        fault("stands 1 if 1=", 14, 0);
        fault("stands 1 if =1", 12, 0);
        fault("stands 1 if 1=1=1", 15, 0);
    }

    private static void signs() {
        DUE.sentence(0, "FACT: not FACT | [ TEST ] (these brackets are signs) | SUM SIGN SUM, SIGN one of < <= = >= >.");
        String[] signs = {"<", "<=", "=", ">=", ">"};
        boolean[][] holds = {{true, true, false, false, false}, {false, true, true, true, false}, {false, false, false, true, true}};
        for (int left = 6; left <= 8; left++) {
            for (int i = 0; i < signs.length; i++) {
                String fact = left + signs[i] + "rank";
                boolean is = holds[left - 6][i];
                test(fact, is);
                test("not " + fact, !is);
                test("not not " + fact, is);
                for (int j = 0; j < signs.length; j++) {
                    String other = "7" + signs[j] + "rank";
                    test(fact + " and " + other, is && holds[1][j]);
                    test(other + " or " + fact, is || holds[1][j]);
                }
            }
        }
        fault("stands 1 if 1==1", 14, 0);
        fault("stands 1 if 1=<1", 14, 0);
        fault("stands 1 if 1=>1", 14, 0);
        fault("stands 1 if 1<>1", 14, 0);
        fault("stands 1 if 1><1", 14, 0);
        fault("stands 1 if 1<<1", 14, 0);
        fault("stands 1 if 1<==1", 15, 0);
        fault("stands 1 if 1< =1", 15, 0);
        fault("stands 1 if 1!1", 13, 0);
    }

    private static void sums() {
        DUE.sentence(0, "SUM: TERM { (+ or -) TERM }. TERM: VALUE { (* or /) VALUE }.");
        weight("stands 2+3*4", 14);
        weight("stands 2*3+4", 10);
        weight("stands 9-3-2", 4);
        weight("stands 9-3+2", 8);
        weight("stands 64/4/2", 8);
        weight("stands 64/4*2", 32);
        weight("stands 3*5/2", 7);
        weight("stands 1-2*3-4/2+rank", 0);
        fault("stands +1", 7, 0);
        fault("stands -1", 7, 0);
        fault("stands 1+", 9, 0);
        fault("stands 1*", 9, 0);
        fault("stands 1+-1", 9, 0);
        fault("stands 1**1", 9, 0);
        fault("stands 1 1", 9, 0);
        fault("stands 1%1", 8, 0);
    }

    private static void numbers() {
        DUE.sentence(0, "VALUE: NUMBER (1 to 5 digits, as far as digits go on) | WORD.");
        weight("stands 0", 0);
        weight("stands 9", 9);
        weight("stands 00000", 0);
        weight("stands 00009", 9);
        weight("stands 10000", 10000);
        weight("stands 99999", 99999);
        fault("stands 000009", 7, 1);
        fault("stands 100000", 7, 1);
        fault("stands 99999999999999999999", 7, 1);
        fault("stands 1 if 1=100000", 14, 1);
        weight("stands 7if 1=1", 7);
        fault("stands 7rank", 8, 0);
    }

    private static void words() {
        DUE.sentence(0, "WORDS (small letters, as far as these go on) of a MARK: rank (of its HAND), hand, number (of it), kind, long, "
            + "place (its first one), agree.");
        String[] words = {"rank", "hand", "number", "kind", "long", "place", "agree"};
        int[] values = {7, 1, 1, 2, 3, 4, 2};
        for (int i = 0; i < words.length; i++) {
            weight("stands " + words[i], values[i]);
            weight("stands" + " " + words[i] + "+1", values[i] + 1);
            weight("stands 5+" + words[i] + "*2", 5 + 2 * values[i]);
            fault("stands " + words[i] + "s", 7, 0);
            fault("stands " + words[i].substring(1), 7, 0);
            fault("stands " + words[i].substring(0, words[i].length() - 1), 7, 0);
            fault("stands " + words[i].toUpperCase(), 7, 0);
            fault("stands" + words[i], 0, 0);
        }
        fault("stands size", 7, 0);
        fault("stands rankhand", 7, 0);
    }

    private static void wordsOfMarks() {
        DUE.sentence(0, "WORDS (small letters, as far as these go on) of a MARK: rank (of its HAND), hand, number (of it), kind, long, "
            + "place (its first one), agree.");
        GalleyMarks x = new GalleyMarks();
        Due.galley(x, "g".repeat(200));
        int[] ranks = {0, 9, 3, 9};
        for (int rank : ranks) {
            x.hand(rank);
        }
        String many = "del 0 1;".repeat(14);
        Due.marks(x, 0, "ins 0 'x'");
        Due.marks(x, 3, many + "move 198 200 0;stet 0 200");
        Due.marks(x, 1, "ins 200 '" + "t".repeat(20) + "';stet 0 200");
        Due.law(x, "stands rank*10000+hand*1000+number");
        Due.law(x, "stands kind*1000*100+long*100+agree");
        Due.law(x, "stands place");
        int[][] marks = {{0, 0}, {3, 14}, {3, 15}, {1, 0}, {1, 1}};
        for (int i = 0; i < marks.length; i++) {
            int hand = marks[i][0];
            int k = marks[i][1];
            DUE.due("rank, hand, number of " + hand + ", " + k, x.weight(0, hand, k), ranks[hand] * 10000 + hand * 1000 + k);
        }
        long[] kinds = {100 + 1, 400000 + 200 + 1, 500000 + 20000 + 2, 2000 + 1, 500000 + 20000 + 2};
        long[] places = {0, 198, 0, 200, 0};
        for (int i = 0; i < marks.length; i++) {
            DUE.due("kind, long, agree of MARK " + i, x.weight(1, marks[i][0], marks[i][1]), kinds[i]);
            DUE.due("place of MARK " + i, x.weight(2, marks[i][0], marks[i][1]), places[i]);
        }
    }

    private static void divisions() {
        DUE.sentence(0, "/ is towards 0, 0 by 0; all goes round in 64 bits.");
        weight("stands 7/2", 3);
        weight("stands 1/2", 0);
        weight("stands 0/2", 0);
        weight("stands 6/7", 0);
        weight("stands 7/7", 1);
        weight("stands " + LOWEST + "/3", Long.MIN_VALUE / 3);
        weight("stands " + LOWEST + "/99999", Long.MIN_VALUE / 99999);
        weight("stands 7/0", 0);
        weight("stands 0/0", 0);
        weight("stands 7/0*5+1", 1);
        weight("stands rank/0+rank", 7);
        weight("stands " + LOWEST + "/0", 0);
        weight("stands 9/00000", 0);
        test("7/0=0", true);
    }

    private static void wrapAround() {
        DUE.sentence(0, "/ is towards 0, 0 by 0; all goes round in 64 bits.");
        weight("stands " + LOWEST, Long.MIN_VALUE);
        weight("stands " + LOWEST + "-1", Long.MAX_VALUE);
        weight("stands 0-" + LOWEST, Long.MIN_VALUE);
        weight("stands " + LOWEST + "*2", 0);
        weight("stands " + LOWEST + "-1+1", Long.MIN_VALUE);
        weight("stands " + LOWEST + "+" + LOWEST, 0);
        weight("stands 99999*99999*99999*99999", 99999L * 99999 * 99999 * 99999);
        weight("stands 0-1*99999*99999*99999*99999", -(99999L * 99999 * 99999 * 99999));
        weight("stands 65536*65536*65536*65536", 0);
        weight("stands 65536*65536", 1L << 32);
        weight("stands 65536*32768", 1L << 31);
        test(LOWEST + "<0", true);
        test(LOWEST + "<1", true);
        test(LOWEST + "-1>0", true);
        test(LOWEST + "-1>0-1", true);
        test(LOWEST + ">" + LOWEST + "-1", false);
        test("0-1<0", true);
    }

    private static void blanks() {
        DUE.sentence(0, "Blanks (32) stand between as one likes.");
        weight("stands1", 1);
        weight("stands1+2*3", 7);
        weight("  stands   1  +  2  *  3  ", 7);
        weight("stands 5if not[1=2]and[1=1]or 1<=1", 5);
        weight("stands   5   if   not   [   1   =   2   ]   and   1   <=   1   ", 5);
        weight("stands 5 if 1=2;stands 6", 6);
        weight("stands 5 if 1=2  ;  stands 6", 6);
        fault("sta nds 1", 0, 0);
        fault("stands 1 2", 9, 0);
        fault("stands ra nk", 7, 0);
        fault("stands 1" + of(9), 8, 0);
        fault("stands" + of(10) + "1", 6, 0);
        fault(of(0) + "stands 1", 0, 0);
        fault("stands 1" + of(160), 8, 0);
        fault("stands 1" + of(31), 8, 0);
        fault("stands 1" + of(33), 8, 0);
    }

    private static void tenDeep() {
        DUE.sentence(0, "[ and not lie within one another 10 deep at most;");
        for (int deep = 1; deep <= 10; deep++) {
            test("[".repeat(deep) + "1=1" + "]".repeat(deep), true);
            test("not ".repeat(deep) + "1=1", deep % 2 == 0);
        }
        fault("stands 1 if " + "[".repeat(11) + "1=1" + "]".repeat(11), 22, 2);
        fault("stands 1 if " + "not ".repeat(11) + "1=1", 52, 2);
        test("[not ".repeat(5) + "1=1" + "]".repeat(5), false);
        fault("stands 1 if " + "[not ".repeat(5) + "[1=1]" + "]".repeat(5), 37, 2);
        fault("stands 1 if " + "[not ".repeat(5) + "not 1=1" + "]".repeat(5), 37, 2);
        // beside one another they are no deeper
        String ten = "[".repeat(10) + "1=1" + "]".repeat(10);
        test(ten + " and " + ten + " or " + ten, true);
        test("not ".repeat(10) + "1=1 and " + ten, true);
        test("[1=1] and [1=1] and [1=1] and [1=1] and [1=1] and [1=1] and [1=1] and [1=1] and [1=1] and [1=1] and [1=1] and [1=1]", true);
        test("[".repeat(9) + "[1=1] and [1=1] or not 1=1" + "]".repeat(9), true);
    }

    private static void sixty() {
        DUE.sentence(0, "at most 60 VALUES and FACTS made of a SIGN, together.");
        weight("stands 1" + "+1".repeat(59), 60);
        fault("stands 1" + "+1".repeat(60), 127, 3);
        weight("stands rank" + "*1".repeat(59), 7);
        // a FACT of a SIGN is three, with its VALUES
        weight("stands 5" + "+0".repeat(56) + " if 1=1", 5);
        fault("stands 5" + "+0".repeat(57) + " if 1=1", 128, 3);
        // 2 + 19 * 3 = 59, and one more VALUE
        String nineteen = "1=1" + " or 1=1".repeat(18);
        weight("stands 5+0 if " + nineteen, 5);
        weight("stands 5+0+0 if " + nineteen, 5);
        fault("stands 5+0+0+0 if " + nineteen, 18 + nineteen.length() - 1, 3);
        // of all CLAUSES together
        weight("stands 5;" + "stands 1+1+1+1+1+1;".repeat(9) + "stands 1+1+1+1+1", 5);
        fault("stands 5;" + "stands 1+1+1+1+1+1;".repeat(9) + "stands 1+1+1+1+1+1", 9 + 9 * 19 + 17, 3);
        // brackets, not, and, or count nothing
        weight("stands 5" + "+0".repeat(56) + " if not not[[not not 1=1]]", 5);
        // a LAW that has a FAULT leaves nothing counted
        GalleyMarks x = new GalleyMarks();
        DUE.due("61", Due.law(x, "stands 1" + "+1".repeat(60)), Due.fault(127, 3));
        DUE.due("60", Due.law(x, "stands 1" + "+1".repeat(59)), 0);
        DUE.due("60 again", Due.law(x, "stands 1" + "+1".repeat(59)), 1);
    }

    private static void faultOfSigns() {
        DUE.sentence(0, "FAULTS as with MARKS: 0 likewise;");
        fault("", 0, 0);
        fault(" ", 1, 0);
        fault(";", 0, 0);
        fault("1", 0, 0);
        fault("falls 1", 0, 0);
        fault("standss 1", 0, 0);
        fault("stand 1", 0, 0);
        fault("Stands 1", 0, 0);
        fault("del 0 1", 0, 0);
        fault("  stand", 2, 0);
        fault("stands ", 7, 0);
        fault("stands 1;", 9, 0);
        fault("stands 1; ", 10, 0);
        fault("stands 1;;stands 1", 9, 0);
        fault("stands 1 stands 1", 9, 0);
        fault("stands 1,stands 1", 8, 0);
        fault("stands 1 iff 1=1", 9, 0);
        fault("stands 1 i 1=1", 9, 0);
        fault("stands 1 if 1=1 1=1", 16, 0);
        fault("stands 1 if 1=1;stands", 22, 0);
        fault("stands " + of(200), 7, 0);
        GalleyMarks x = new GalleyMarks();
        DUE.due("at place 0", Due.law(x, "x"), -3);
        DUE.due("at place 6", Due.law(x, "stands"), -2 - 49);
        // the first along the text
        fault("stands 123456 if [1;x", 7, 1);
        fault("stands x+123456", 7, 0);
        fault("stands 1 if 1 123456", 14, 0);
    }

    private static void faultOfNumbers() {
        DUE.sentence(0, "1 a NUMBER of more digits;");
        fault("stands 123456", 7, 1);
        fault("stands  123456", 8, 1);
        fault("stands 000000", 7, 1);
        fault("stands 1*123456", 9, 1);
        fault("stands 1 if 123456=1", 12, 1);
        fault("stands 1 if [not 123456=1]", 17, 1);
        fault("stands 1;stands 123456", 16, 1);
        weight("stands 12345", 12345);
    }

    private static void faultOfDepth() {
        DUE.sentence(0, "2 too deep (at the sign that opens, or the word not);");
        String ten = "stands 1 if " + "[".repeat(10);
        fault(ten + "[", 22, 2);
        fault(ten + " [", 23, 2);
        fault(ten + "not", 22, 2);
        fault(ten + " not 1=1", 23, 2);
        fault(ten + "1=1 and [", 30, 2);
        fault(ten + "1=1 or not", 29, 2);
        fault(ten + "nott", 22, 0);
        fault(ten, 22, 0);
        fault(ten + "]", 22, 0);
        fault(ten + "1=1" + "]".repeat(9), 34, 0);
        fault(ten + "1=1" + "]".repeat(11), 35, 0);
        fault("stands 1 if " + "not ".repeat(10) + "[1=1]", 52, 2);
        fault("stands 1 if 1=1 and " + "[".repeat(11), 30, 2);
        fault("stands 1 if 1=1;stands 1 if " + "[".repeat(11), 38, 2);
        fault("stands 1 if " + "[".repeat(380), 22, 2);
    }

    private static void faultOfCount() {
        DUE.sentence(0, "3 one VALUE or FACT too many (at its first byte; of a FACT at its SIGN);");
        String sixty = "stands 1" + "+1".repeat(59);
        int end = sixty.length();
        fault(sixty + "+1", end + 1, 3);
        fault(sixty + "+  1", end + 3, 3);
        fault(sixty + "*12345", end + 1, 3);
        fault(sixty + "-rank", end + 1, 3);
        fault(sixty + " if rank=1", end + 4, 3);
        fault(sixty + " if [not rank=1]", end + 9, 3);
        fault(sixty + ";stands 1", end + 8, 3);
        String fiftyNine = "stands 1" + "+1".repeat(58);
        end = fiftyNine.length();
        fault(fiftyNine + " if rank=1", end + 8, 3);
        fault(fiftyNine + " if rank <= 1", end + 9, 3);
        fault(fiftyNine + " if rank + 1", end + 11, 3);
        String fiftyEight = "stands 1" + "+1".repeat(57);
        end = fiftyEight.length();
        fault(fiftyEight + " if rank<=  12", end + 12, 3);
        fault(fiftyEight + " if rank<=", end + 10, 0);
    }

    private static void faultOfClauses() {
        DUE.sentence(0, "4 a thirteenth CLAUSE (at its first byte).");
        String twelve = "stands 1;".repeat(11) + "stands 1";
        GalleyMarks x = new GalleyMarks();
        DUE.due("12 CLAUSES", Due.law(x, twelve), 0);
        fault(twelve + ";stands 1", 108, 4);
        fault(twelve + ";   stands 1", 111, 4);
        fault(twelve + ";stands", 108, 4);
        fault(twelve + ";stands oops", 108, 4);
        fault(twelve + ";stands 1;stands 1", 108, 4);
        String tests = "stands 1 if 1=2;".repeat(11) + "stands 1 if 1=2";
        GalleyMarks y = sheet();
        DUE.due("12 CLAUSES with TESTS", Due.law(y, tests), 0);
        DUE.due("none of them holds", y.weight(0, 1, 1), 0);
        fault(tests + ";stands 1", 192, 4);
    }

    private static void leastOfOnePlace() {
        DUE.sentence(0, "Of one place the least.");
        String twelve = "stands 1;".repeat(11) + "stands 1";
        fault(twelve + ";stand 1", 108, 0);
        fault(twelve + ";", 108, 0);
        fault(twelve + ";;", 108, 0);
        String sixty = "stands 1" + "+1".repeat(59);
        fault(sixty + "+123456", 127, 1);
        fault(sixty + "+size", 127, 0);
        fault(sixty + "+", 127, 0);
        fault(sixty + "+;", 127, 0);
        String fiftyNine = "stands 1" + "+1".repeat(58);
        fault(fiftyNine + " if 1!1", 129, 0);
        fault(fiftyNine + " if 1", 129, 0);
    }

    private static void firstClause() {
        DUE.sentence(0, "WEIGHT of a MARK by a LAW: the SUM of the first CLAUSE without a TEST, or whose TEST holds (0 without).");
        weight("stands 3;stands 4", 3);
        weight("stands 3 if 1=2;stands 4;stands 5", 4);
        weight("stands 3 if 1=2;stands 4 if 1=1;stands 5", 4);
        weight("stands 3 if 1=1;stands 4", 3);
        weight("stands 3 if 1=2", 0);
        weight("stands 3 if 1=2;stands 4 if 1=2", 0);
        weight("stands 0-3;stands 4", -3);
        weight("stands 0;stands 4", 0);
        weight("stands 1 if 1=2;".repeat(11) + "stands 12", 12);
        weight("stands 1 if 1=2;".repeat(11) + "stands 12 if 1=2", 0);
    }

    private static void taken() {
        DUE.sentence(8, "The TAPE, which is empty then, is a LAW: its number;");
        GalleyMarks x = sheet();
        for (int law = 0; law < 4; law++) {
            DUE.due("law " + law, Due.law(x, "stands " + (10 + law)), law);
            DUE.due("the TAPE is empty", x.count(5), 0);
            DUE.due("LAWS", x.count(4), law + 1);
        }
        for (int law = 0; law < 4; law++) {
            DUE.due("WEIGHT by " + law, x.weight(law, 1, 1), 10 + law);
        }
    }

    private static void refused() {
        DUE.sentence(8, "-2 - its FAULT;");
        GalleyMarks x = sheet();
        Due.law(x, "stands 3 if rank=7;stands 1");
        String[] wrong = {"", "stands 9;", "stands 9 if 1=1;stands", "stands 9;oops", "stands 9 if [1=1"};
        int[] places = {0, 9, 22, 9, 16};
        for (int i = 0; i < wrong.length; i++) {
            DUE.due("law of " + wrong[i], Due.law(x, wrong[i]), -2 - (1 + 8 * places[i]));
            DUE.due("the TAPE is empty", x.count(5), 0);
            DUE.due("LAWS", x.count(4), 1);
            DUE.due("the LAW that is there", x.weight(0, 1, 1), 3);
            DUE.due("for another HAND", x.weight(0, 0, 0), 1);
        }
        DUE.due("the next LAW", Due.law(x, "stands 4"), 1);
        DUE.due("WEIGHT by it", x.weight(1, 1, 1), 4);
        DUE.due("WEIGHT by the first", x.weight(0, 1, 1), 3);
    }

    /** The next LAW has nothing of a text that had a FAULT. */
    private static void nothingLeft() {
        DUE.sentence(8, "-2 - its FAULT;");
        leavesNothing("stands 1 if 1=2;stands 7;oops", "stands 1 if 1=2", 0);
        leavesNothing("stands 1 if not 1=1;oops", "stands 3 if 1=1", 3);
        leavesNothing("stands 1 if 1=2 or 1=2;oops", "stands 4 if 1=1", 4);
        leavesNothing("stands 8*8;".repeat(11) + "stands 8*8;", "stands 5 if 1=2;stands 6 if 1=2", 0);
        leavesNothing("stands 1+1+1+1-", "stands 9", 9);
    }

    private static void leavesNothing(String wrong, String law, long want) {
        GalleyMarks x = sheet();
        DUE.holds("a FAULT of " + wrong, Due.law(x, wrong) < -2);
        DUE.due("law of " + law, Due.law(x, law), 0);
        DUE.due("WEIGHT by " + law + " behind " + wrong, x.weight(0, 1, 1), want);
    }

    private static void fourLaws() {
        DUE.sentence(8, "NONE, and nothing happens: there are 4.");
        GalleyMarks x = sheet();
        for (int law = 0; law < 4; law++) {
            Due.law(x, "stands " + law);
        }
        String[] texts = {"stands 9", "oops", ""};
        for (String text : texts) {
            Due.tell(x, text);
            DUE.due("a fifth LAW '" + text + "'", x.law(), -1);
            DUE.due("the TAPE stays", x.count(5), text.length());
            DUE.due("LAWS", x.count(4), 4);
            for (int law = 0; law < 4; law++) {
                DUE.due("WEIGHT by " + law, x.weight(law, 1, 1), law);
            }
            DUE.due("WEIGHT by 4", x.weight(4, 1, 1), 0);
            x.end(0);
        }
        Due.tell(x, "stands 9");
        x.law();
        DUE.due("its bytes stay", x.galley(), 8);
        DUE.due("the first", x.at(0, 0), 's');
        DUE.due("the last", x.at(0, 7), '9');
        DUE.due("no LAW of that number", x.out(LEAST), -1);
        DUE.due("nor of that", x.out(MOST), -1);
    }
}
