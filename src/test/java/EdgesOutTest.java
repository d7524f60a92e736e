/** Sentence by sentence, at the boundary and just beyond it: promises 19 and 20, and the TEXT by MARKS. */
public final class EdgesOutTest {
    private static final Due DUE = new Due("EdgesOutTest");
    private static final int LEAST = Integer.MIN_VALUE;
    private static final int MOST = Integer.MAX_VALUE;

    public static void main(String[] args) {
        placesAndBytes();
        orderOfMoves();
        whatGoesAlong();
        touched();
        standing();
        standingAnew();
        sixtyFour();
        atMost400();
        bytesOfOut();
        withoutALaw();
        readBytes();
        withoutTheByte();
        DUE.close();
    }

    /** OUT by MARKS that all stand. */
    private static void out(String galley, String want, String... hands) {
        GalleyMarks x = Due.hands(galley, hands);
        Due.law(x, "stands 1");
        String of = String.join(" | ", hands) + " of " + galley;
        DUE.due("all stand, " + of, x.many(0, 1), x.count(3));
        DUE.due("BYTES, " + of, x.out(0), want.length());
        DUE.same("OUT by " + of, Due.out(x, 0), want);
    }

    private static void placesAndBytes() {
        DUE.sentence(0, "The TEXT by MARKS without CLASHES: of all BYTES in their order, each with its PLACE ahead of it, the last PLACE behind all:");
        out("", "");
        out("", "x", "ins 0 'x'");
        out("a", "xay", "ins 0 'x';ins 1 'y'");
        out("abc", "abc");
        out("abc", "1a2b3c4", "ins 3 '4';ins 2 '3';ins 1 '2';ins 0 '1'");
        String galley = "0123456789".repeat(20);
        out(galley, galley);
        out(galley, "x" + galley + "y", "ins 0 'x';ins 200 'y'");
    }

    private static void orderOfMoves() {
        DUE.sentence(0, "the moves, the one with its ends farthest from one another first (of several the first of the least HAND; ALIKE ones once), "
            + "are done:");
        // the one within is done behind the other, whichever was told first
        out("abcdefgh", "efghbacd", "move 0 4 8;move 0 1 2");
        out("abcdefgh", "efghbacd", "move 0 1 2;move 0 4 8");
        out("abcdefgh", "efghbacd", "move 0 1 2", "move 0 4 8");
        out("abcdefgh", "efghadbc", "move 3 4 1;move 0 4 8");
        out("abcdefgh", "fgehabcd", "move 4 5 7;move 0 4 8");
        out("abcdefgh", "efghbacd", "move 0 1 2;move 4 8 0");
        // where it lies counts nothing
        out("abcdefghij", "abcdijfegh", "move 4 8 10;move 4 5 6");
        out("abcdefghij", "abcdijfegh", "move 4 5 6;move 4 8 10");
        out("abcdefghij", "abjcdefigh", "move 9 10 2;move 8 9 6");
        // the ends of a move to a lesser PLACE are as far from one another
        out("abcdefghij", "fghijbacde", "move 0 1 2;move 5 10 0");
        out("abcdefghij", "ghfijabdce", "move 5 6 8;move 2 3 4;move 0 5 10");
        // of several with the same ends' distance
        out("abcdef", "badcfe", "move 0 1 2;move 2 3 4;move 4 5 6");
        out("abcdef", "badcfe", "move 4 5 6", "move 2 3 4", "move 0 1 2");
        out("abcdef", "bcaefd", "move 3 4 6", "move 0 1 3");
        // ALIKE ones once
        out("abcdef", "bcadef", "move 0 1 3;move 0 1 3");
        out("abcdef", "bcadef", "move 0 1 3", "swap 0 1 3", "move 0 1 3");
        out("abcdefgh", "efghbacd", "move 0 1 2;move 0 4 8", "move 0 4 8;move 0 1 2");
    }

    private static void whatGoesAlong() {
        DUE.sentence(0, "the BYTES from its first PLACE to its second one, with the PLACES between them and what came there, go behind its third PLACE "
            + "(ahead of all that came there by moves done before);");
        out("abcdef", "bcdefa", "move 0 1 6");
        out("abcdef", "fabcde", "move 5 6 0");
        out("abcdef", "fabcde", "move 0 5 6");
        out("abcdef", "bcdefa", "move 1 6 0");
        out("abcdef", "acbdef", "move 1 2 3");
        out("abcdef", "acbdef", "move 2 3 1");
        // PLACES between the two go along, the two themselves stay
        out("abcdef", "aXYdebcf", "move 1 3 5;ins 1 'X';ins 3 'Y'");
        out("abcdef", "adebXcf", "move 1 3 5;ins 2 'X'");
        // the third PLACE stays ahead of what comes there
        out("abcdef", "adeXbcf", "move 1 3 5;ins 5 'X'");
        out("abcdef", "defXabc", "move 0 3 6;ins 6 'X'");
        out("abcdef", "Xdefabc", "move 3 6 0;ins 0 'X'");
        // what came to an end of another move does not go along with it
        out("abcdefgh", "bcaefdgh", "move 0 1 3;move 3 4 6");
        out("abcdefgh", "bcXaefdgh", "move 0 1 3;move 3 4 6;ins 3 'X'");
        out("abcdefgh", "cabgdefh", "move 2 3 0;move 6 7 3");
        // what came to a PLACE between the two does
        out("abcdefgh", "gacbdefh", "move 1 2 3;move 0 6 7");
        out("abcdefghij", "ghijbcadef", "move 0 6 10;move 0 1 3");
    }

    private static void touched() {
        DUE.sentence(0, "then at each PLACE comes the TEXT of an ins there, BYTES with a del are gone, letters with a cap are capitals, with a low "
            + "small ones (what is no letter stays).");
        out("@AZ[`az{", "@AZ[`AZ{", "cap 0 8");
        out("@AZ[`az{", "@az[`az{", "low 0 8");
        out(" 09~", " 09~", "cap 0 4");
        out(" 09~", " 09~", "low 0 4");
        out("abc", "aBc", "cap 1 2");
        out("ABC", "AbC", "low 1 2");
        out("abc", "ac", "del 1 2");
        out("abc", "", "del 0 3");
        out("abcd", "d", "del 0 2;del 1 3");
        out("abc", "ABC", "cap 0 2;cap 1 3");
        // the TEXT of an ins is no BYTE of these
        out("abc", "AxBC", "cap 0 3;ins 1 'x'");
        out("abc", "XcY", "del 0 2;ins 0 'X';ins 3 'Y'");
        out("abc", "aXc", "del 1 2;ins 1 'X'");
        out("abc", "aXc", "del 1 2;ins 2 'X'");
        out("abc", "aXbc", "ins 1 'X'", "ins 1 'X'");
        out("abc", "aX bc", "ins 1 'X ';stet 0 1;stet 1 3");
        out("abcd", "cAB", "move 0 2 4;cap 0 2;del 3 4");
        out("abcd", "cAB", "cap 0 2;del 3 4;move 0 2 4");
        out("abcd", "cdb", "del 0 1;move 0 2 4");
        out("ABcd", "cdab", "low 0 2;stet 2 4;move 0 2 4");
    }

    private static void standing() {
        DUE.sentence(0, "OUT: the TEXT by all MARKS that stand (400 BYTES at most: what is more is lost).");
        GalleyMarks x = Due.hands("abcdef", "del 0 2;ins 6 '!'", "cap 1 3");
        Due.law(x, "stands 9-hand");
        Due.law(x, "stands hand");
        Due.law(x, "stands 1");
        DUE.same("the cap FALLS", Due.out(x, 0), "cdef!");
        DUE.same("the del FALLS", Due.out(x, 1), "aBCdef!");
        DUE.same("both are OPEN", Due.out(x, 2), "abcdef!");
    }

    /** Nothing is left of MARKS that stood before. */
    private static void standingAnew() {
        DUE.sentence(0, "OUT: the TEXT by all MARKS that stand (400 BYTES at most: what is more is lost).");
        GalleyMarks x = lawful("abcdef", "cap 0 1;move 0 2 4;ins 6 '!';del 5 6");
        DUE.same("of four MARKS", Due.out(x, 0), "cdAbe!");
        Due.galley(x, "abcdef");
        DUE.same("of none", Due.out(x, 0), "abcdef");
        Due.marks(x, 0, "cap 3 4");
        DUE.same("of one", Due.out(x, 0), "abcDef");
        GalleyMarks full = lawful("g".repeat(200), "ins 200 'x';del 199 200");
        DUE.due("behind the last of 200", full.reads(0, 199), 'x');
        Due.galley(full, "h".repeat(200));
        DUE.due("BYTES without it", full.out(0), 200);
        DUE.due("the last of 200", full.reads(0, 199), 'h');
    }

    /** All MARKS that there can be stand, each shows. */
    private static void sixtyFour() {
        DUE.sentence(0, "OUT: the TEXT by all MARKS that stand (400 BYTES at most: what is more is lost).");
        GalleyMarks x = Due.hands("ab".repeat(64), caps(0), caps(16), caps(32), caps(48));
        Due.law(x, "stands 1");
        DUE.due("all stand", x.many(0, 1), 64);
        DUE.same("64 caps", Due.out(x, 0), "Ab".repeat(64));
    }

    /** Sixteen caps, each of an a of "ab" told again and again. */
    private static String caps(int from) {
        StringBuilder marks = new StringBuilder();
        for (int k = from; k < from + 16; k++) {
            marks.append(k == from ? "" : ";").append("cap ").append(2 * k).append(' ').append(2 * k + 1);
        }
        return marks.toString();
    }

    /** A GALLEY of 200 BYTES, the last a z, with so many BYTES put in. */
    private static GalleyMarks longer(int more) {
        GalleyMarks x = Due.with("g".repeat(199) + "z", "");
        for (int k = 0; 20 * k < more; k++) {
            Due.marks(x, 0, "ins " + k + " '" + "t".repeat(Math.min(20, more - 20 * k)) + "'");
        }
        Due.law(x, "stands 1");
        return x;
    }

    private static void atMost400() {
        DUE.sentence(0, "OUT: the TEXT by all MARKS that stand (400 BYTES at most: what is more is lost).");
        int[] more = {198, 199, 200, 201, 202, 220, 320};
        for (int n : more) {
            GalleyMarks x = longer(n);
            int size = Math.min(400, 200 + n);
            DUE.due("BYTES with " + n, x.out(0), size);
            DUE.due("the last with " + n, x.reads(0, size - 1), n <= 200 ? 'z' : 'g');
            DUE.due("behind it with " + n, x.reads(0, size), -1);
        }
        // what is lost is lost behind, also within a TEXT
        GalleyMarks x = longer(190);
        Due.marks(x, 0, "ins 200 'abcdefghijklmnopqrst'");
        DUE.due("BYTES", x.out(0), 400);
        DUE.due("the last", x.reads(0, 399), 'j');
        GalleyMarks y = longer(200);
        Due.marks(y, 0, "ins 200 'x'");
        DUE.due("BYTES", y.out(0), 400);
        DUE.due("the last", y.reads(0, 399), 'z');
        Due.marks(y, 0, "del 50 51");
        DUE.due("BYTES", y.out(0), 400);
        DUE.due("the last when one is struck", y.reads(0, 399), 'x');
    }

    private static void bytesOfOut() {
        DUE.sentence(19, "BYTES of OUT by a LAW;");
        DUE.due("none", lawful("", "").out(0), 0);
        DUE.due("all struck", lawful("abc", "del 0 3").out(0), 0);
        DUE.due("one", lawful("abc", "del 0 2").out(0), 1);
        DUE.due("200", lawful("g".repeat(200), "").out(0), 200);
        DUE.due("400", longer(200).out(0), 400);
        GalleyMarks x = lawful("abc", "del 0 3");
        Due.law(x, "stands 2");
        Due.law(x, "stands 2");
        Due.law(x, "stands 2");
        DUE.due("by LAW 3", x.out(3), 0);
    }

    private static GalleyMarks lawful(String galley, String marks) {
        GalleyMarks x = Due.with(galley, marks);
        Due.law(x, "stands 1");
        return x;
    }

    private static void withoutALaw() {
        DUE.sentence(19, "NONE without it.");
        DUE.due("no LAW at all", Due.with("abc", "").out(0), -1);
        GalleyMarks x = lawful("abc", "");
        int[] wrong = {1, 2, 3, 4, -1, LEAST, MOST};
        for (int law : wrong) {
            DUE.due("out(" + law + ")", x.out(law), -1);
        }
        DUE.due("out(0)", x.out(0), 3);
        for (int law = 1; law < 4; law++) {
            Due.law(x, "stands 1");
            DUE.due("out(" + law + ")", x.out(law), 3);
            DUE.due("out(" + (law + 1) + ")", x.out(law + 1), -1);
        }
    }

    private static void readBytes() {
        DUE.sentence(20, "BYTE i of OUT by a LAW;");
        GalleyMarks x = lawful("abc", "cap 1 2;ins 3 '~ '");
        String want = "aBc~ ";
        for (int i = 0; i < want.length(); i++) {
            DUE.due("reads(0, " + i + ")", x.reads(0, i), want.charAt(i));
        }
        GalleyMarks full = longer(200);
        DUE.due("reads(0, 0)", full.reads(0, 0), 't');
        DUE.due("reads(0, 399)", full.reads(0, 399), 'z');
    }

    private static void withoutTheByte() {
        DUE.sentence(20, "NONE without these.");
        GalleyMarks x = lawful("abc", "cap 1 2");
        int[][] wrong = {{0, 3}, {0, -1}, {0, LEAST}, {0, MOST}, {1, 0}, {4, 0}, {-1, 0}, {LEAST, 0}, {MOST, 0}};
        for (int[] w : wrong) {
            DUE.due("reads(" + w[0] + ", " + w[1] + ")", x.reads(w[0], w[1]), -1);
        }
        DUE.due("of an empty OUT", lawful("abc", "del 0 3").reads(0, 0), -1);
        DUE.due("behind a full OUT", longer(320).reads(0, 400), -1);
        Due.marks(x, 0, "del 2 3");
        DUE.due("of an OUT that has become less", x.reads(0, 2), -1);
    }
}
