/** Sentence by sentence, at the boundary and just beyond it: promises 7, 11 and 12, and the language of MARKS. */
public final class EdgesMarksTest {
    private static final Due DUE = new Due("EdgesMarksTest");
    private static final int LEAST = Integer.MIN_VALUE;
    private static final int MOST = Integer.MAX_VALUE;
    /** PLACES 0 to 12, a blank behind PLACES 4 and 5 and 11. */
    private static final String GALLEY = "abcd  ghijk ";

    public static void main(String[] args) {
        places();
        sixteenMarks();
        insOfTexts();
        ranges();
        moves();
        longs();
        atMost400();
        clauses();
        swaps();
        closes();
        numbers();
        textSigns();
        blanks();
        firstFault();
        faultOfSigns();
        faultOfNumbers();
        faultOfTexts();
        faultOfRoom();
        leastOfOnePlace();
        wholeOrNotAtAll();
        behindThoseItHas();
        emptyTape();
        withoutTheHand();
        whatIsTold();
        withoutThese();
        bytesOfTexts();
        withoutTheByte();
        DUE.close();
    }

    private static String of(int sign) {
        return String.valueOf((char) sign);
    }

    private static GalleyMarks told(String marks) {
        GalleyMarks x = Due.with(GALLEY, "");
        DUE.due("marks of " + marks, Due.marks(x, 0, marks), 1);
        return x;
    }

    private static void taken(String marks, int kind, int first, int second, int third) {
        GalleyMarks x = told(marks);
        DUE.due("kind of " + marks, x.mark(0, 0, 0), kind);
        DUE.due("first PLACE of " + marks, x.mark(0, 0, 1), first);
        DUE.due("second PLACE of " + marks, x.mark(0, 0, 2), second);
        DUE.due("third PLACE of " + marks, x.mark(0, 0, 3), third);
    }

    private static void fault(String marks, int place, int kind) {
        GalleyMarks x = Due.with(GALLEY, "del 0 1");
        DUE.due("marks of " + marks, Due.marks(x, 0, marks), Due.fault(place, kind));
        DUE.due("MARKS behind " + marks, x.count(6), 1);
        DUE.due("TAPE behind " + marks, x.count(5), 0);
    }

    private static void places() {
        DUE.sentence(0, "PLACES 0 to how many it has: PLACE p is ahead of BYTE p.");
        taken("ins 0 'x'", 0, 0, -1, -1);
        taken("ins 12 'x'", 0, 12, -1, -1);
        fault("ins 13 'x'", 4, 1);
        taken("del 0 1", 1, 0, 1, -1);
        taken("del 11 12", 1, 11, 12, -1);
        fault("del 11 13", 7, 1);
        fault("del 13 14", 4, 1);
        for (int place = 0; place <= 3; place++) {
            GalleyMarks x = Due.with("abc", "ins " + place + "'-'");
            Due.law(x, "stands 1");
            DUE.same("a TEXT at PLACE " + place, Due.out(x, 0), "abc".substring(0, place) + "-" + "abc".substring(place));
        }
        GalleyMarks none = Due.with("", "ins 0 'x'");
        DUE.due("PLACE 1 of an empty GALLEY", Due.marks(none, 0, "ins 1 'x'"), Due.fault(4, 1));
        DUE.due("BYTES of an empty GALLEY", Due.marks(none, 0, "del 0 1"), Due.fault(6, 1));
        GalleyMarks full = Due.with("g".repeat(200), "");
        DUE.due("PLACE 200", Due.marks(full, 0, "ins 200 'x';del 199 200;move 0 1 200"), 3);
        DUE.due("PLACE 201", Due.marks(full, 0, "ins 201 'x'"), Due.fault(4, 1));
        DUE.due("BYTES to PLACE 201", Due.marks(full, 0, "del 199 201"), Due.fault(8, 1));
    }

    private static void sixteenMarks() {
        DUE.sentence(0, "MARKS of a HAND 0 to 15.");
        GalleyMarks x = Due.hands(GALLEY, "", "");
        for (int k = 0; k < 16; k++) {
            DUE.due("MARK " + k, Due.marks(x, 1, "ins " + k % 12 + " 'x'"), k + 1);
        }
        for (int k = 0; k < 16; k++) {
            DUE.due("PLACE of MARK " + k, x.mark(1, k, 1), k % 12);
        }
        DUE.due("one more", Due.marks(x, 1, "ins 0 'x'"), Due.fault(0, 4));
        DUE.due("MARK 16", x.mark(1, 16, 1), -2);
        DUE.due("MARKS", x.count(7), 16);
        DUE.due("another HAND has none", x.count(6), 0);
    }

    private static void insOfTexts() {
        DUE.sentence(0, "MARKS are of kinds: 0 ins (at a PLACE, a TEXT of 1 to 20 BYTES),");
        for (int size = 1; size <= 20; size++) {
            GalleyMarks x = told("ins 3 '" + "t".repeat(size) + "'");
            DUE.due("kind", x.mark(0, 0, 0), 0);
            DUE.due("BYTES", x.mark(0, 0, 4), size);
        }
        fault("ins 3 ''", 7, 2);
        fault("ins 3 '" + "t".repeat(21) + "'", 27, 2);
    }

    private static void ranges() {
        DUE.sentence(0, "1 del, 2 cap, 3 low, 5 stet (BYTES from a PLACE to another one, behind it),");
        String[] verbs = {"del", "cap", "low", "stet"};
        int[] kinds = {1, 2, 3, 5};
        for (int i = 0; i < verbs.length; i++) {
            int second = verbs[i].length() + 3;
            taken(verbs[i] + " 0 1", kinds[i], 0, 1, -1);
            taken(verbs[i] + " 0 12", kinds[i], 0, 12, -1);
            taken(verbs[i] + " 4 5", kinds[i], 4, 5, -1);
            fault(verbs[i] + " 0 0", second, 1);
            fault(verbs[i] + " 5 5", second, 1);
            fault(verbs[i] + " 5 4", second, 1);
            fault(verbs[i] + " 0 13", second, 1);
            fault(verbs[i] + " 12 12", second + 1, 1);
        }
    }

    private static void moves() {
        DUE.sentence(0, "4 move (BYTES from a PLACE to another one, behind it, to a third PLACE that is not between these two, and none of them).");
        taken("move 3 6 2", 4, 3, 6, 2);
        taken("move 3 6 7", 4, 3, 6, 7);
        taken("move 3 6 0", 4, 3, 6, 0);
        taken("move 3 6 12", 4, 3, 6, 12);
        for (int third = 3; third <= 6; third++) {
            fault("move 3 6 " + third, 9, 1);
        }
        fault("move 3 6 13", 9, 1);
        taken("move 3 4 2", 4, 3, 4, 2);
        taken("move 3 4 5", 4, 3, 4, 5);
        fault("move 3 3 5", 7, 1);
        fault("move 3 2 5", 7, 1);
        fault("move 0 12 0", 10, 1);
        fault("move 0 12 12", 10, 1);
        taken("move 0 11 12", 4, 0, 11, 12);
        taken("move 1 12 0", 4, 1, 12, 0);
    }

    private static void longs() {
        DUE.sentence(0, "LONG of a MARK: BYTES of its TEXT, or how many it has from the one PLACE to the other.");
        String[] marks = {"ins 7 'x'", "ins 7 '" + "y".repeat(20) + "'", "del 0 1", "del 0 12", "cap 2 4", "low 11 12", "stet 3 8",
            "move 2 5 9", "move 2 5 0", "swap 1 2 12", "close 4"};
        int[] lengths = {1, 20, 1, 12, 2, 1, 5, 3, 3, 1, 1};
        for (int i = 0; i < marks.length; i++) {
            DUE.due("LONG of " + marks[i], told(marks[i]).mark(0, 0, 4), lengths[i]);
        }
    }

    private static void atMost400() {
        DUE.sentence(0, "MARKS are told as a text of at most 400 bytes: CLAUSE { ; CLAUSE }.");
        taken("del 1 2" + " ".repeat(393), 1, 1, 2, -1);
        taken(" ".repeat(393) + "del 1 2", 1, 1, 2, -1);
        fault("del 1 2" + " ".repeat(392) + ";", 400, 0);
        fault("del 1 2" + " ".repeat(392) + "x", 399, 0);
        fault(" ".repeat(400), 400, 0);
        GalleyMarks x = Due.with(GALLEY, "");
        String most = ("ins 0 '" + "t".repeat(20) + "';").repeat(13) + "stet 10 12";
        String full = " ".repeat(400 - most.length()) + most;
        DUE.due("the text", full.length(), 400);
        DUE.due("14 MARKS in 400 bytes", Due.marks(x, 0, full), 14);
        DUE.due("the last of them", x.mark(0, 13, 2), 12);
    }

    private static void clauses() {
        DUE.sentence(0, "CLAUSE: ins NUMBER TEXT | del NUMBER NUMBER | cap NUMBER NUMBER | low NUMBER NUMBER | stet NUMBER NUMBER | "
            + "move NUMBER NUMBER NUMBER |");
        String[] verbs = {"ins", "del", "cap", "low", "stet", "move", "swap", "close"};
        for (String verb : verbs) {
            int length = verb.length();
            fault(verb, length, 0);
            fault(verb + "x", 0, 0);
            fault("x" + verb, 0, 0);
            fault(verb.substring(0, length - 1), 0, 0);
            fault(verb.toUpperCase(), 0, 0);
            fault(verb + ";", length, 0);
        }
        fault("ins 0", 5, 0);
        fault("ins 0 1 'x'", 6, 0);
        fault("del 0 1 2", 8, 0);
        fault("del 0 'x'", 6, 0);
        fault("cap 0", 5, 0);
        fault("low 0 1 2", 8, 0);
        fault("stet 0", 6, 0);
        fault("stet 0 1 2", 9, 0);
        fault("move 0 1", 8, 0);
        fault("move 0 1 2 3", 11, 0);
        fault("swap 0 1", 8, 0);
        fault("swap 0 1 2 3", 11, 0);
        fault("close 4 5", 8, 0);
        GalleyMarks x = Due.with(GALLEY, "");
        DUE.due("all", Due.marks(x, 0, "ins 0 'x';del 0 1;cap 1 2;low 2 3;stet 3 4;move 6 7 8;swap 6 7 8;close 4"), 8);
        int[] kinds = {0, 1, 2, 3, 5, 4, 4, 1};
        for (int k = 0; k < kinds.length; k++) {
            DUE.due("kind of MARK " + k, x.mark(0, k, 0), kinds[k]);
        }
    }

    private static void swaps() {
        DUE.sentence(0, "swap NUMBER NUMBER NUMBER (three PLACES, each behind the one ahead of it: a move of BYTES from the first to the second "
            + "to the third) |");
        taken("swap 0 1 2", 4, 0, 1, 2);
        taken("swap 10 11 12", 4, 10, 11, 12);
        taken("swap 0 1 12", 4, 0, 1, 12);
        fault("swap 3 3 5", 7, 1);
        fault("swap 3 2 5", 7, 1);
        fault("swap 3 5 5", 9, 1);
        fault("swap 3 5 4", 9, 1);
        fault("swap 3 5 2", 9, 1);
        fault("swap 3 5 13", 9, 1);
        fault("swap 10 12 12", 11, 1);
        GalleyMarks x = Due.hands(GALLEY, "swap 3 5 9", "move 3 5 9");
        DUE.due("ALIKE the move", x.mark(0, 0, 5), 2);
    }

    private static void closes() {
        DUE.sentence(0, "close NUMBER (a PLACE ahead of a blank: a del of this alone).");
        taken("close 4", 1, 4, 5, -1);
        taken("close 5", 1, 5, 6, -1);
        taken("close 11", 1, 11, 12, -1);
        fault("close 3", 6, 1);
        fault("close 6", 6, 1);
        fault("close 10", 6, 1);
        fault("close 12", 6, 1);
        fault("close 13", 6, 1);
        GalleyMarks x = new GalleyMarks();
        x.hand(0);
        DUE.due("in an empty GALLEY", Due.marks(x, 0, "close 0"), Due.fault(6, 1));
        Due.galley(x, " ");
        DUE.due("of a blank alone", Due.marks(x, 0, "close 0"), 1);
        DUE.due("behind it", Due.marks(x, 0, "close 1"), Due.fault(6, 1));
        Due.galley(x, "g".repeat(199) + " ");
        DUE.due("of the 200th BYTE", Due.marks(x, 0, "close 199"), 1);
        DUE.due("behind it", Due.marks(x, 0, "close 200"), Due.fault(6, 1));
        Due.galley(x, "!a");
        DUE.due("33 is no blank", Due.marks(x, 0, "close 0"), Due.fault(6, 1));
    }

    private static void numbers() {
        DUE.sentence(0, "NUMBERS are PLACES (1 to 3 digits, as far as digits go on).");
        taken("del 1 2", 1, 1, 2, -1);
        taken("del 01 02", 1, 1, 2, -1);
        taken("del 001 002", 1, 1, 2, -1);
        taken("del 000 012", 1, 0, 12, -1);
        fault("del 0001 2", 4, 1);
        fault("del 1 0002", 6, 1);
        fault("del 0000", 4, 1);
        fault("ins 0012'x'", 4, 1);
        fault("ins 999'x'", 4, 1);
        fault("ins 1000'x'", 4, 1);
        fault("ins 4294967297'x'", 4, 1);
        fault("close 0004", 6, 1);
        fault("move 1 2 0005", 9, 1);
        fault("del 12", 6, 0);
        fault("del 1 2 3 ", 8, 0);
    }

    private static void textSigns() {
        DUE.sentence(0, "TEXT: ' { BYTE } ' with any BYTES but '.");
        for (int sign = 0; sign < 256; sign++) {
            if (sign == '\'') {
                continue;
            }
            String marks = "ins 1 '" + of(sign) + "'";
            if (sign >= 32 && sign <= 126) {
                DUE.due("the BYTE " + sign, told(marks).put(0, 0, 0), sign);
            } else {
                fault(marks, 7, 2);
            }
        }
        fault("ins 1 '''", 7, 2);
        fault("ins 1 'a''", 9, 0);
        fault("ins 1 'a' 'b'", 10, 0);
    }

    private static void blanks() {
        DUE.sentence(0, "Blanks (32) stand between as one likes.");
        taken("del1 2", 1, 1, 2, -1);
        taken("   del   1   2   ", 1, 1, 2, -1);
        taken("ins1'x'", 0, 1, -1, -1);
        taken(" ins  1  'x' ", 0, 1, -1, -1);
        taken("move1 2 3", 4, 1, 2, 3);
        taken("close4", 1, 4, 5, -1);
        GalleyMarks x = Due.with(GALLEY, "");
        DUE.due("none about a ;", Due.marks(x, 0, "del 1 2;ins 3'x';ins 4'y'"), 3);
        DUE.due("blanks about a ;", Due.marks(x, 0, "del 1 2   ;   ins 3'x'  ;ins 4'y'"), 6);
        DUE.due("a blank in a TEXT is a BYTE of it", told("ins 1 ' '").put(0, 0, 0), 32);
        fault("d el 1 2", 0, 0);
        fault("del 1 2" + of(9), 7, 0);
        fault("del" + of(10) + "1 2", 3, 0);
        fault(of(0) + "del 1 2", 0, 0);
        fault("del 1" + of(160) + "2", 5, 0);
        fault("del 1" + of(31) + "2", 5, 0);
        fault("del 1" + of(33) + "2", 5, 0);
    }

    private static void firstFault() {
        DUE.sentence(0, "FAULTS, the first along the text, 1 + 8 * its place and:");
        GalleyMarks x = Due.with(GALLEY, "");
        DUE.due("at place 0", Due.marks(x, 0, "x"), -3);
        DUE.due("at place 4, kind 1", Due.marks(x, 0, "del 99 0"), -2 - 34);
        DUE.due("at place 7, kind 2", Due.marks(x, 0, "ins 1 ''"), -2 - 59);
        fault("del 13 13;x", 4, 1);
        fault("del 1 1;del 13 1", 6, 1);
        fault("del 1 2;ins 1 '';x", 15, 2);
        fault("ins 13 ''", 4, 1);
        fault("ins 1 '' x", 7, 2);
        fault("move 2 1 99", 7, 1);
    }

    private static void faultOfSigns() {
        DUE.sentence(0, "0 a byte or word that can't stand there, or the end (behind the last byte);");
        fault("", 0, 0);
        fault(" ", 1, 0);
        fault(";", 0, 0);
        fault("'", 0, 0);
        fault("1", 0, 0);
        fault("stands", 0, 0);
        fault("  oops 1", 2, 0);
        fault("del 1 2 oops", 8, 0);
        fault("del 1 2,", 7, 0);
        fault("del 1 2;", 8, 0);
        fault("del 1 2;  ", 10, 0);
        fault("del 1 2;;del 1 2", 8, 0);
        fault("del 1 2 del 1 2", 8, 0);
        fault("del ", 4, 0);
        fault("del 1", 5, 0);
        fault("del 1   ", 8, 0);
        fault("del 1 -", 6, 0);
        fault("ins 1 x", 6, 0);
        fault("ins 1 '", 7, 0);
        fault("ins 1 'a", 8, 0);
        fault("ins 1 'a ", 9, 0);
        fault("ins 1 '" + "a".repeat(20), 27, 0);
        fault("ins 1 'a'b", 9, 0);
        fault("del 1 2" + of(255), 7, 0);
    }

    private static void faultOfNumbers() {
        DUE.sentence(0, "1 a NUMBER of more digits, or not as told;");
        fault("del 0000 1", 4, 1);
        fault("del 13 1", 4, 1);
        fault("del 12 13", 7, 1);
        fault("del 5 5", 6, 1);
        fault("   del 5 5", 9, 1);
        fault("move 5 6 5", 9, 1);
        fault("move 5 6 6", 9, 1);
        fault("move 5 5 5", 7, 1);
        fault("swap 5 6 6", 9, 1);
        fault("close 0", 6, 1);
        fault("ins 13", 4, 1);
        fault("ins 0000", 4, 1);
    }

    private static void faultOfTexts() {
        DUE.sentence(0, "2 a TEXT without a BYTE (at its second '), or its 21st BYTE, or a byte in it that is none of 32 to 126;");
        fault("ins 1 ''", 7, 2);
        fault("ins 1''", 6, 2);
        fault("ins 1 '' ", 7, 2);
        told("ins 1 '" + "a".repeat(20) + "'");
        fault("ins 1 '" + "a".repeat(21) + "'", 27, 2);
        fault("ins 1 '" + "a".repeat(21), 27, 2);
        fault("ins 1 '" + "a".repeat(40) + "'", 27, 2);
        fault("ins 1 '" + " ".repeat(21) + "'", 27, 2);
        fault("ins 1 '" + of(31) + "'", 7, 2);
        fault("ins 1 '" + of(127) + "'", 7, 2);
        fault("ins 1 '" + "a".repeat(19) + of(127) + "'", 26, 2);
        fault("ins 1 '" + "a".repeat(20) + of(127) + "'", 27, 2);
        fault("ins 1 'ab" + of(0), 9, 2);
        told("ins 1 '" + of(32) + of(126) + "'");
    }

    private static void faultOfRoom() {
        DUE.sentence(0, "4 one MARK too many of the HAND, those that it has counted (at its first byte).");
        GalleyMarks x = Due.hands(GALLEY, "", "del 0 1");
        String fifteen = "del 0 1;".repeat(14) + "del 0 1";
        DUE.due("17 at once", Due.marks(x, 0, fifteen + ";del 0 1;del 0 1"), Due.fault(128, 4));
        DUE.due("none of them", x.count(6), 0);
        DUE.due("16 at once", Due.marks(x, 0, fifteen + ";del 0 1"), 16);
        DUE.due("one more", Due.marks(x, 0, "cap 0 1"), Due.fault(0, 4));
        DUE.due("one more behind blanks", Due.marks(x, 0, "   cap 0 1"), Due.fault(3, 4));
        DUE.due("16 of a HAND that has one", Due.marks(x, 1, fifteen + ";  close 4"), Due.fault(122, 4));
        DUE.due("it has one still", x.count(7), 1);
        DUE.due("15 of it", Due.marks(x, 1, fifteen), 16);
        DUE.due("one more of it", Due.marks(x, 1, "ins 0 'x'"), Due.fault(0, 4));
        Due.galley(x, GALLEY);
        DUE.due("MARKS that are gone do not count", Due.marks(x, 1, fifteen + ";del 0 1"), 16);
    }

    private static void leastOfOnePlace() {
        DUE.sentence(0, "Of one place the least.");
        String fifteen = "del 0 1;".repeat(14) + "del 0 1";
        GalleyMarks x = Due.with(GALLEY, fifteen + ";del 0 1");
        DUE.due("a word that can't stand there", Due.marks(x, 0, "oops"), Due.fault(0, 0));
        DUE.due("a longer word", Due.marks(x, 0, "dels 0 1"), Due.fault(0, 0));
        DUE.due("a sign", Due.marks(x, 0, ";"), Due.fault(0, 0));
        DUE.due("the end", Due.marks(x, 0, "  "), Due.fault(2, 0));
        DUE.due("a word alone", Due.marks(x, 0, "del"), Due.fault(0, 4));
        DUE.due("a wrong NUMBER is behind it", Due.marks(x, 0, "del 9999 1"), Due.fault(0, 4));
        DUE.due("MARKS", x.count(6), 16);
        fault("del 13 0", 4, 1);
        fault("ins 1 '" + "a".repeat(20) + of(200), 27, 2);
    }

    private static void wholeOrNotAtAll() {
        DUE.sentence(0, "A text is taken whole or not at all.");
        GalleyMarks x = Due.with(GALLEY, "cap 0 1");
        Due.law(x, "stands 1");
        String[] wrong = {"del 0 12;", "del 0 12;oops", "del 0 12;del 0 13", "del 0 12;ins 0 ''", "del 0 12;ins 0 'x", "del 0 12;low 3 3"};
        for (String marks : wrong) {
            DUE.holds(marks + " has a FAULT", Due.marks(x, 0, marks) < -2);
            DUE.due("MARKS behind " + marks, x.count(6), 1);
            DUE.due("no second one", x.mark(0, 1, 0), -2);
            DUE.due("no CLASH", x.clashes(0), 0);
            DUE.same("OUT behind " + marks, Due.out(x, 0), "Abcd  ghijk ");
        }
        DUE.due("a whole one", Due.marks(x, 0, "cap 1 2;cap 2 3"), 3);
        DUE.same("OUT", Due.out(x, 0), "ABCd  ghijk ");
    }

    private static void behindThoseItHas() {
        DUE.sentence(7, "The TAPE, which is empty then, are MARKS of a HAND, behind those it has: how many it has;");
        GalleyMarks x = Due.hands(GALLEY, "", "", "", "");
        for (int hand = 3; hand >= 0; hand--) {
            DUE.due("the first of HAND " + hand, Due.marks(x, hand, "cap " + hand + " 9"), 1);
            DUE.due("the TAPE is empty", x.count(5), 0);
            DUE.due("two more", Due.marks(x, hand, "low 0 1;del 3 4"), 3);
        }
        for (int hand = 0; hand < 4; hand++) {
            DUE.due("the first", x.mark(hand, 0, 1), hand);
            DUE.due("the second", x.mark(hand, 1, 0), 3);
            DUE.due("the third", x.mark(hand, 2, 0), 1);
        }
        DUE.sentence(7, "-2 - the FAULT;");
        DUE.due("a FAULT", Due.marks(x, 0, "cap 9 9"), -2 - (1 + 8 * 6 + 1));
        DUE.due("the TAPE is empty", x.count(5), 0);
        DUE.due("MARKS", x.count(6), 3);
    }

    private static void emptyTape() {
        DUE.sentence(7, "-2 - the FAULT;");
        GalleyMarks x = Due.with(GALLEY, "del 0 1");
        DUE.due("an empty TAPE", x.marks(0), -3);
        DUE.due("MARKS", x.count(6), 1);
    }

    private static void withoutTheHand() {
        DUE.sentence(7, "NONE, and nothing happens, without the HAND.");
        GalleyMarks x = Due.hands(GALLEY, "", "");
        Due.tell(x, "del 0 1");
        int[] wrong = {2, 3, 4, -1, LEAST, MOST};
        for (int hand : wrong) {
            DUE.due("marks(" + hand + ")", x.marks(hand), -1);
            DUE.due("the TAPE stays", x.count(5), 7);
            DUE.due("MARKS", x.count(3), 0);
        }
        DUE.due("marks(1)", x.marks(1), 1);
        GalleyMarks y = new GalleyMarks();
        Due.tell(y, "oops");
        DUE.due("without a HAND, whatever the text", y.marks(0), -1);
        DUE.due("it stays", y.count(5), 4);
    }

    private static void whatIsTold() {
        DUE.sentence(11, "Of a MARK what 0: kind, 1, 2, 3: its PLACES (NONE: none), 4: LONG, 5: AGREE.");
        GalleyMarks x = Due.hands(GALLEY, "ins 12 'ab';del 0 12;cap 1 2;low 2 4;move 0 1 12;stet 11 12;close 5",
            "close 5;ins 12 'ab'", "ins 12 'ab'", "ins 12 'aB'");
        int[][] want = {{0, 12, -1, -1, 2, 3}, {1, 0, 12, -1, 12, 1}, {2, 1, 2, -1, 1, 1}, {3, 2, 4, -1, 2, 1}, {4, 0, 1, 12, 1, 1},
            {5, 11, 12, -1, 1, 1}, {1, 5, 6, -1, 1, 2}};
        for (int k = 0; k < want.length; k++) {
            for (int what = 0; what < 6; what++) {
                DUE.due("mark(0, " + k + ", " + what + ")", x.mark(0, k, what), want[k][what]);
            }
        }
    }

    private static void withoutThese() {
        DUE.sentence(11, "-2 without these.");
        GalleyMarks x = Due.hands(GALLEY, "del 0 1", "", "cap 0 1;cap 1 2");
        int[][] wrong = {{0, 0, 6}, {0, 0, -1}, {0, 0, LEAST}, {0, 0, MOST}, {0, 1, 0}, {0, -1, 0}, {0, 15, 0}, {0, 16, 0}, {0, 32, 0},
            {1, 0, 0}, {1, -16, 0}, {1, 16, 0}, {2, 2, 0}, {3, 0, 0}, {4, 0, 0}, {-1, 0, 0}, {-1, 16, 0}, {LEAST, 0, 0}, {MOST, 0, 0},
            {0, LEAST, 0}, {0, MOST, 0}};
        for (int[] w : wrong) {
            DUE.due("mark(" + w[0] + ", " + w[1] + ", " + w[2] + ")", x.mark(w[0], w[1], w[2]), -2);
        }
        DUE.due("mark(2, 1, 5)", x.mark(2, 1, 5), 1);
    }

    private static void bytesOfTexts() {
        DUE.sentence(12, "BYTE i of the TEXT of an ins;");
        GalleyMarks x = Due.hands(GALLEY, "", "del 0 1;ins 0 'abcdefghijklmnopqrst';ins 1 'z'");
        for (int i = 0; i < 20; i++) {
            DUE.due("put(1, 1, " + i + ")", x.put(1, 1, i), 'a' + i);
        }
        DUE.due("put(1, 2, 0)", x.put(1, 2, 0), 'z');
    }

    private static void withoutTheByte() {
        DUE.sentence(12, "NONE without it.");
        GalleyMarks x = Due.hands(GALLEY, "", "del 0 1;ins 0 'abcdefghijklmnopqrst';ins 1 'z';move 1 2 3;stet 4 5;cap 6 7;low 7 8");
        int[][] wrong = {{1, 1, 20}, {1, 1, -1}, {1, 2, 1}, {1, 2, -1}, {1, 2, LEAST}, {1, 2, MOST}, {1, 0, 0}, {1, 3, 0}, {1, 4, 0},
            {1, 5, 0}, {1, 6, 0}, {1, 7, 0}, {1, -1, 0}, {1, 16, 0}, {0, 0, 0}, {0, 17, 0}, {2, 0, 0}, {2, -15, 0}, {-1, 1, 0}, {4, 1, 0},
            {LEAST, 1, 0}, {MOST, 1, 0}, {1, LEAST, 0}, {1, MOST, 0}};
        for (int[] w : wrong) {
            DUE.due("put(" + w[0] + ", " + w[1] + ", " + w[2] + ")", x.put(w[0], w[1], w[2]), -1);
        }
    }
}
