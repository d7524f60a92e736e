/** Promises 7, 11 and 12: the language of MARKS with its FAULTS, what is told of a MARK, and its TEXT. */
public final class MarksTest {
    private static final Due DUE = new Due("MarksTest");
    private static final String GALLEY = "ab cd";

    public static void main(String[] args) {
        kinds();
        blanks();
        texts();
        agree();
        places();
        signs();
        numbers();
        textFaults();
        room();
        wholeOrNotAtAll();
        withoutThese();
        DUE.close();
    }

    private static void mark(String marks, int kind, int first, int second, int third, int length) {
        GalleyMarks x = Due.with(GALLEY, "");
        DUE.due(marks, Due.marks(x, 0, marks), 1);
        int[] want = {kind, first, second, third, length, 1};
        for (int what = 0; what < 6; what++) {
            DUE.due(marks + " mark(0, 0, " + what + ")", x.mark(0, 0, what), want[what]);
        }
    }

    private static void kinds() {
        mark("ins 0 'x'", 0, 0, -1, -1, 1);
        mark("ins 5 'x y'", 0, 5, -1, -1, 3);
        mark("del 0 5", 1, 0, 5, -1, 5);
        mark("cap 1 3", 2, 1, 3, -1, 2);
        mark("low 4 5", 3, 4, 5, -1, 1);
        mark("move 1 2 5", 4, 1, 2, 5, 1);
        mark("move 3 5 0", 4, 3, 5, 0, 2);
        mark("stet 0 1", 5, 0, 1, -1, 1);
        mark("swap 0 2 5", 4, 0, 2, 5, 2);
        mark("close 2", 1, 2, 3, -1, 1);
    }

    private static void blanks() {
        mark("   del   1    2   ", 1, 1, 2, -1, 1);
        mark("del1 2", 1, 1, 2, -1, 1);
        mark("ins1'q'", 0, 1, -1, -1, 1);
        mark("move001 002 005", 4, 1, 2, 5, 1);
        GalleyMarks x = Due.with(GALLEY, "");
        DUE.due("two without a blank", Due.marks(x, 0, "del 1 2;cap 1 2"), 2);
        DUE.due("two with blanks", Due.marks(x, 0, " del 1 2 ; cap 1 2 "), 4);
    }

    private static void texts() {
        GalleyMarks x = Due.with(GALLEY, "ins 0 ' ;~';del 0 1;ins 1 'abcdefghijklmnopqrst'");
        DUE.due("put(0, 0, 0)", x.put(0, 0, 0), 32);
        DUE.due("put(0, 0, 1)", x.put(0, 0, 1), ';');
        DUE.due("put(0, 0, 2)", x.put(0, 0, 2), 126);
        DUE.due("put(0, 0, 3)", x.put(0, 0, 3), -1);
        DUE.due("put(0, 0, -1)", x.put(0, 0, -1), -1);
        DUE.due("put of a del", x.put(0, 1, 0), -1);
        DUE.due("put(0, 2, 19)", x.put(0, 2, 19), 't');
        DUE.due("put(0, 2, 20)", x.put(0, 2, 20), -1);
        DUE.due("put(0, 3, 0)", x.put(0, 3, 0), -1);
        DUE.due("put(1, 0, 0)", x.put(1, 0, 0), -1);
        DUE.due("put(-1, 0, 0)", x.put(-1, 0, 0), -1);
        DUE.due("put(0, -1, 0)", x.put(0, -1, 0), -1);
        DUE.due("put(0, 16, 0)", x.put(0, 16, 0), -1);
    }

    private static void agree() {
        GalleyMarks x = Due.with(GALLEY, "close 2;ins 0 'x';ins 0 'x';ins 0 'y';swap 0 1 2");
        x.hand(1);
        x.hand(2);
        Due.marks(x, 1, "del 2 3;ins 0 'x';stet 2 3;move 0 1 2");
        Due.marks(x, 2, "del 2 3;ins 1 'x';move 1 2 0");
        int[] want = {3, 2, 2, 1, 2};
        for (int k = 0; k < want.length; k++) {
            DUE.due("AGREE of " + k, x.mark(0, k, 5), want[k]);
        }
        DUE.due("AGREE of a stet", x.mark(1, 2, 5), 1);
        DUE.due("AGREE of another move", x.mark(2, 2, 5), 1);
    }

    private static void fault(String marks, int place, int kind) {
        GalleyMarks x = Due.with(GALLEY, "");
        DUE.due(marks, Due.marks(x, 0, marks), Due.fault(place, kind));
        DUE.due(marks + " has told none", x.count(3), 0);
        DUE.due(marks + " has gone from the TAPE", x.count(5), 0);
    }

    private static void places() {
        fault("ins 6 'a'", 4, 1);
        fault("del 2 2", 6, 1);
        fault("del 3 2", 6, 1);
        fault("del 6 7", 4, 1);
        fault("del 5 5", 6, 1);
        fault("del 0 6", 6, 1);
        fault("cap 5 4", 6, 1);
        fault("low 1 1", 6, 1);
        fault("stet 1 0", 7, 1);
        fault("move 1 3 1", 9, 1);
        fault("move 1 3 2", 9, 1);
        fault("move 1 3 3", 9, 1);
        fault("move 1 3 6", 9, 1);
        fault("move 3 1 5", 7, 1);
        fault("swap 1 3 0", 9, 1);
        fault("swap 1 3 3", 9, 1);
        fault("swap 1 1 2", 7, 1);
        fault("close 0", 6, 1);
        fault("close 5", 6, 1);
        fault("close 6", 6, 1);
        fault("close 999", 6, 1);
        fault("ins 6", 4, 1);
        fault("del 0 6 x", 6, 1);
    }

    private static void signs() {
        fault("", 0, 0);
        fault("   ", 3, 0);
        fault(";", 0, 0);
        fault("dels 1 2", 0, 0);
        fault("de 1 2", 0, 0);
        fault("deL 1 2", 0, 0);
        fault("Del 1 2", 0, 0);
        fault("stands 1", 0, 0);
        fault("1 del", 0, 0);
        fault("del", 3, 0);
        fault("del  ", 5, 0);
        fault("del x", 4, 0);
        fault("del -1 2", 4, 0);
        fault("del 1", 5, 0);
        fault("del 1 ", 6, 0);
        fault("del 1,2", 5, 0);
        fault("del 1 2 3", 8, 0);
        fault("del 1 2cap 1 2", 7, 0);
        fault("del 1 2;", 8, 0);
        fault("del 1 2; ", 9, 0);
        fault("del 1 2;;", 8, 0);
        fault("del 1 2 cap 1 2", 8, 0);
        fault("del\t1 2", 3, 0);
        fault("ins 1", 5, 0);
        fault("ins 1 x", 6, 0);
        fault("ins 1 'a", 8, 0);
        fault("ins 1 'a  ", 10, 0);
        fault("ins 1 '", 7, 0);
        fault("ins 1 'a''b'", 9, 0);
        fault("ins 'a'", 4, 0);
        fault("move 0 1", 8, 0);
        fault("close", 5, 0);
        fault("close 2 3", 8, 0);
        fault("del 1 2;oops", 8, 0);
        fault("del 1 2" + (char) 0, 7, 0);
        fault("del 1 2" + (char) 200, 7, 0);
    }

    private static void numbers() {
        fault("del 0001 2", 4, 1);
        fault("del 1 0002", 6, 1);
        fault("del 1 99999999999999999999", 6, 1);
        fault("ins 1000'a'", 4, 1);
        fault("ins 999'a'", 4, 1);
        fault("move 0 1 0002", 9, 1);
    }

    private static void textFaults() {
        fault("ins 1 ''", 7, 2);
        fault("ins 1'' ;", 6, 2);
        fault("ins 1 '" + "a".repeat(21) + "'", 27, 2);
        fault("ins 1 '" + "a".repeat(21), 27, 2);
        fault("ins 1 '" + "a".repeat(20), 27, 0);
        fault("ins 1 '" + "a".repeat(20) + "\n", 27, 2);
        fault("ins 1 'a\nb'", 8, 2);
        fault("ins 1 '" + (char) 127 + "'", 7, 2);
        fault("ins 1 'a" + (char) 255 + "'", 8, 2);
        GalleyMarks x = Due.with(GALLEY, "");
        DUE.due("20 BYTES", Due.marks(x, 0, "ins 1 '" + "a".repeat(20) + "'"), 1);
    }

    private static void room() {
        GalleyMarks x = Due.with(GALLEY, "");
        x.hand(1);
        String fifteen = "del 0 1;".repeat(14) + "del 0 1";
        DUE.due("15", Due.marks(x, 0, fifteen), 15);
        DUE.due("17", Due.marks(x, 0, "cap 0 1; cap 0 1"), Due.fault(9, 4));
        DUE.due("17, wrong word", Due.marks(x, 0, "cap 0 1; cup 0 1"), Due.fault(9, 0));
        DUE.due("17, wrong number", Due.marks(x, 0, "cap 0 1; cap 9 1"), Due.fault(9, 4));
        DUE.due("17, a word alone", Due.marks(x, 0, "cap 0 1;cap"), Due.fault(8, 4));
        DUE.due("17, nothing", Due.marks(x, 0, "cap 0 1;"), Due.fault(8, 0));
        DUE.due("16, wrong number", Due.marks(x, 0, "cap 9 1;cap 0 1"), Due.fault(4, 1));
        DUE.due("16", Due.marks(x, 0, "cap 0 1"), 16);
        DUE.due("17th alone", Due.marks(x, 0, " cap 0 1"), Due.fault(1, 4));
        DUE.due("another HAND", Due.marks(x, 1, fifteen + ";del 0 1"), 16);
        DUE.due("together", x.count(3), 32);
        GalleyMarks y = Due.with(GALLEY, "");
        DUE.due("17 in one text", Due.marks(y, 0, fifteen + ";del 0 1;del 0 1"), Due.fault(128, 4));
        DUE.due("none of them", y.count(3), 0);
    }

    private static void wholeOrNotAtAll() {
        GalleyMarks x = Due.with(GALLEY, "del 0 1");
        DUE.due("fault behind a MARK", Due.marks(x, 0, "cap 0 1;del 9 9"), Due.fault(12, 1));
        DUE.due("as it was", x.count(6), 1);
        DUE.due("behind those it has", Due.marks(x, 0, "cap 0 1;low 0 2"), 3);
        DUE.due("first", x.mark(0, 0, 0), 1);
        DUE.due("second", x.mark(0, 1, 0), 2);
        DUE.due("third", x.mark(0, 2, 0), 3);
        GalleyMarks y = new GalleyMarks();
        y.hand(0);
        DUE.due("an ins in an empty GALLEY", Due.marks(y, 0, "ins 0 'x'"), 1);
        DUE.due("a close in it", Due.marks(y, 0, "close 0"), Due.fault(6, 1));
        DUE.due("a del in it", Due.marks(y, 0, "del 0 0"), Due.fault(6, 1));
    }

    private static void withoutThese() {
        GalleyMarks x = Due.with(GALLEY, "del 0 1");
        Due.tell(x, "cap 0 1");
        DUE.due("marks(1)", x.marks(1), -1);
        DUE.due("marks(-1)", x.marks(-1), -1);
        DUE.due("marks(4)", x.marks(4), -1);
        DUE.due("the TAPE stays", x.count(5), 7);
        DUE.due("marks(0)", x.marks(0), 2);
        DUE.due("mark(0, 2, 0)", x.mark(0, 2, 0), -2);
        DUE.due("mark(0, -1, 0)", x.mark(0, -1, 0), -2);
        DUE.due("mark(1, 0, 0)", x.mark(1, 0, 0), -2);
        DUE.due("mark(-1, 0, 0)", x.mark(-1, 0, 0), -2);
        DUE.due("mark(0, 0, 6)", x.mark(0, 0, 6), -2);
        DUE.due("mark(0, 0, -1)", x.mark(0, 0, -1), -2);
        DUE.due("mark(0, 16, 0)", x.mark(0, 16, 0), -2);
    }
}
