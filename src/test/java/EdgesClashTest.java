import java.util.ArrayList;
import java.util.List;

/** Sentence by sentence, at the boundary and just beyond it: promises 13 and 14, and the CLASHES of part II. */
public final class EdgesClashTest {
    private static final Due DUE = new Due("EdgesClashTest");
    private static final int LEAST = Integer.MIN_VALUE;
    private static final int MOST = Integer.MAX_VALUE;
    private static final String GALLEY = "abcdefghijkl";

    public static void main(String[] args) {
        ofAnyHands();
        strikeAndTurn();
        raiseAndLower();
        twoPutIn();
        putInStruck();
        stets();
        movesAlike();
        movesApart();
        endsOfMoves();
        movesWithinMoved();
        movesWithinGoneOver();
        allMoves();
        allRanges();
        alike();
        agree();
        ofTwo();
        withoutThese();
        howMany();
        noSuchKind();
        DUE.close();
    }

    /** In both orders, of one HAND and of two. */
    private static void clash(String one, String other, int want) {
        GalleyMarks x = Due.hands(GALLEY, one + ";" + other, one, other);
        DUE.due(one + " and " + other, x.clash(0, 0, 0, 1), want);
        DUE.due(other + " and " + one, x.clash(0, 1, 0, 0), want);
        DUE.due(one + " and another HAND's " + other, x.clash(1, 0, 2, 0), want);
        DUE.due(other + " and another HAND's " + one, x.clash(2, 0, 1, 0), want);
    }

    private static void ofAnyHands() {
        DUE.sentence(0, "CLASH of two MARKS (of any HANDS), 0: none; the least kind that there is:");
        String sixteen = "ins 0 'x';".repeat(15) + "del 0 2";
        GalleyMarks x = Due.hands(GALLEY, "cap 0 1", "ins 0 'x'", "ins 0 'y'", sixteen);
        DUE.due("the first HAND and the last", x.clash(0, 0, 3, 15), 1);
        DUE.due("the last HAND and the first", x.clash(3, 15, 0, 0), 1);
        DUE.due("of one HAND", x.clash(3, 0, 3, 15), 0);
        DUE.due("of two HANDS, ALIKE", x.clash(1, 0, 3, 14), 0);
        DUE.due("of two HANDS", x.clash(2, 0, 3, 14), 3);
    }

    private static void strikeAndTurn() {
        DUE.sentence(0, "1: a del and a cap or low that have a BYTE in common;");
        String[] turns = {"cap", "low"};
        for (String turn : turns) {
            clash("del 3 6", turn + " 5 6", 1);
            clash("del 3 6", turn + " 5 9", 1);
            clash("del 3 6", turn + " 6 9", 0);
            clash("del 3 6", turn + " 3 4", 1);
            clash("del 3 6", turn + " 0 4", 1);
            clash("del 3 6", turn + " 0 3", 0);
            clash("del 3 6", turn + " 0 12", 1);
            clash("del 3 6", turn + " 4 5", 1);
            clash("del 3 6", turn + " 3 6", 1);
        }
        clash("del 3 6", "del 3 6", 0);
        clash("del 3 6", "del 4 8", 0);
    }

    private static void raiseAndLower() {
        DUE.sentence(0, "2: a cap and a low likewise;");
        clash("cap 3 6", "low 5 6", 2);
        clash("cap 3 6", "low 6 7", 0);
        clash("cap 3 6", "low 2 4", 2);
        clash("cap 3 6", "low 2 3", 0);
        clash("cap 3 6", "low 3 6", 2);
        clash("cap 0 12", "low 11 12", 2);
        clash("cap 3 6", "cap 4 8", 0);
        clash("low 3 6", "low 3 6", 0);
    }

    private static void twoPutIn() {
        DUE.sentence(0, "3: two ins at one PLACE with unlike TEXTS;");
        clash("ins 3 'x'", "ins 3 'y'", 3);
        clash("ins 3 'x'", "ins 3 'X'", 3);
        clash("ins 3 'x'", "ins 3 'xx'", 3);
        clash("ins 3 'x'", "ins 3 ' x'", 3);
        clash("ins 3 'x'", "ins 3 'x'", 0);
        clash("ins 3 'x'", "ins 4 'y'", 0);
        clash("ins 3 'x'", "ins 2 'y'", 0);
        clash("ins 0 'x'", "ins 12 'y'", 0);
        clash("ins 12 'x'", "ins 12 'y'", 3);
        String twenty = "abcdefghijklmnopqrst";
        clash("ins 0 '" + twenty + "'", "ins 0 '" + twenty + "'", 0);
        clash("ins 0 '" + twenty + "'", "ins 0 'abcdefghijklmnopqrsu'", 3);
        clash("ins 0 '" + twenty + "'", "ins 0 'abcdefghijklmnopqrs'", 3);
    }

    private static void putInStruck() {
        DUE.sentence(0, "4: an ins at a PLACE between the two PLACES of a del (none of them);");
        clash("ins 3 'x'", "del 3 6", 0);
        clash("ins 4 'x'", "del 3 6", 4);
        clash("ins 5 'x'", "del 3 6", 4);
        clash("ins 6 'x'", "del 3 6", 0);
        clash("ins 2 'x'", "del 3 6", 0);
        clash("ins 7 'x'", "del 3 6", 0);
        clash("ins 3 'x'", "del 3 4", 0);
        clash("ins 4 'x'", "del 3 4", 0);
        clash("ins 0 'x'", "del 0 12", 0);
        clash("ins 12 'x'", "del 0 12", 0);
        clash("ins 1 'x'", "del 0 12", 4);
        clash("ins 11 'x'", "del 0 12", 4);
        clash("ins 4 'x'", "cap 3 6", 0);
        clash("ins 4 'x'", "low 3 6", 0);
        clash("ins 4 'x'", "move 3 6 9", 0);
    }

    private static void stets() {
        DUE.sentence(0, "5: a stet and a del, cap, low, move (BYTES that it moves) with a BYTE in common, or an ins at a PLACE between the two of "
            + "the stet;");
        String[] verbs = {"del 0 4", "cap 0 4", "low 0 4", "move 0 4 12", "del 5 8", "cap 5 8", "low 5 8", "move 5 8 0", "del 3 6", "cap 4 5",
            "low 0 12", "move 4 5 3", "move 3 6 12", "move 5 6 12"};
        for (String verb : verbs) {
            clash("stet 3 6", verb, 5);
        }
        String[] beside = {"del 0 3", "cap 0 3", "low 0 3", "move 0 3 12", "del 6 8", "cap 6 8", "low 6 8", "move 6 8 0", "move 0 1 5",
            "move 7 8 4", "move 7 8 3", "move 2 3 6", "stet 3 6", "stet 4 5", "stet 0 12"};
        for (String verb : beside) {
            clash("stet 3 6", verb, 0);
        }
        clash("stet 3 6", "ins 2 'x'", 0);
        clash("stet 3 6", "ins 3 'x'", 0);
        clash("stet 3 6", "ins 4 'x'", 5);
        clash("stet 3 6", "ins 5 'x'", 5);
        clash("stet 3 6", "ins 6 'x'", 0);
        clash("stet 3 6", "ins 7 'x'", 0);
        clash("stet 3 4", "ins 3 'x'", 0);
        clash("stet 3 4", "ins 4 'x'", 0);
    }

    private static void movesAlike() {
        DUE.sentence(0, "6: two moves, unless they are alike, or one ends where the other begins or ahead of it, with unlike third PLACES, "
            + "or one lies within the other.");
        clash("move 2 4 7", "move 2 4 7", 0);
        clash("move 2 4 7", "swap 2 4 7", 0);
        clash("move 2 4 7", "move 2 4 8", 6);
        clash("move 2 4 7", "move 2 5 7", 6);
        clash("move 2 4 7", "move 1 4 7", 6);
        clash("move 2 4 7", "move 4 7 2", 6);
        clash("move 0 1 12", "move 0 1 11", 6);
    }

    private static void movesApart() {
        DUE.sentence(0, "6: two moves, unless they are alike, or one ends where the other begins or ahead of it, with unlike third PLACES, "
            + "or one lies within the other.");
        clash("move 1 2 5", "move 6 7 9", 0);
        clash("move 1 2 5", "move 5 7 9", 0);
        clash("move 1 2 5", "move 4 7 9", 6);
        clash("move 1 2 5", "move 7 9 6", 0);
        clash("move 1 2 5", "move 7 9 5", 6);
        clash("move 1 2 5", "move 7 9 4", 6);
        clash("move 3 5 1", "move 5 7 9", 0);
        clash("move 3 5 1", "move 7 9 5", 0);
        clash("move 3 5 1", "move 7 9 4", 6);
        clash("move 3 5 1", "move 0 1 2", 6);
    }

    private static void endsOfMoves() {
        DUE.sentence(0, "A move's ends: the least and the greatest of its three PLACES.");
        // the third PLACE is the greatest, the least, and both of the others are ends
        clash("move 0 1 6", "move 6 7 8", 0);
        clash("move 0 1 6", "move 5 7 8", 6);
        clash("move 8 9 6", "move 2 6 0", 0);
        clash("move 8 9 6", "move 2 7 0", 6);
        clash("move 4 6 2", "move 6 7 8", 0);
        clash("move 4 6 2", "move 0 1 2", 6);
        clash("move 4 6 2", "move 1 2 0", 0);
        clash("move 4 6 2", "move 1 3 0", 6);
    }

    private static void movesWithinMoved() {
        DUE.sentence(0, "It lies within another one, if its two PLACES and its third one are in the BYTES that the other one moves, or in those that "
            + "these go over (between them and the third PLACE), the third one not at an end of these.");
        String[] outer = {"move 3 7 10", "move 3 7 0"};
        for (String move : outer) {
            clash(move, "move 4 5 6", 0);
            clash(move, "move 5 6 4", 0);
            clash(move, "move 3 4 6", 0);
            clash(move, "move 3 5 6", 0);
            clash(move, "move 6 7 4", 0);
            clash(move, "move 5 7 4", 0);
            clash(move, "move 4 5 7", 6);
            clash(move, "move 4 5 3", 6);
            clash(move, "move 3 4 7", 6);
            clash(move, "move 6 7 3", 6);
            clash(move, "move 4 5 8", 6);
            clash(move, "move 4 5 2", 6);
            clash(move, "move 2 4 6", 6);
            clash(move, "move 6 8 4", 6);
        }
    }

    private static void movesWithinGoneOver() {
        DUE.sentence(0, "It lies within another one, if its two PLACES and its third one are in the BYTES that the other one moves, or in those that "
            + "these go over (between them and the third PLACE), the third one not at an end of these.");
        String[] outer = {"move 1 3 7", "move 7 9 3"};
        for (String move : outer) {
            clash(move, "move 4 5 6", 0);
            clash(move, "move 5 6 4", 0);
            clash(move, "move 3 4 6", 0);
            clash(move, "move 6 7 4", 0);
            clash(move, "move 3 5 6", 0);
            clash(move, "move 5 7 4", 0);
            clash(move, "move 4 5 7", 6);
            clash(move, "move 4 5 3", 6);
            clash(move, "move 3 4 7", 6);
            clash(move, "move 6 7 3", 6);
            clash(move, "move 2 4 6", 6);
            clash(move, "move 6 8 4", 6);
        }
        clash("move 1 3 7", "move 1 2 5", 6);
        clash("move 1 3 7", "move 4 5 2", 6);
    }

    /** Every two moves of six BYTES, as the other telling of the document has them. */
    private static void allMoves() {
        DUE.sentence(0, "6: two moves, unless they are alike, or one ends where the other begins or ahead of it, with unlike third PLACES, "
            + "or one lies within the other.");
        List<Model.Mark> all = new ArrayList<>();
        for (int a = 0; a <= 6; a++) {
            for (int b = a + 1; b <= 6; b++) {
                for (int c = 0; c <= 6; c++) {
                    if (c < a || c > b) {
                        all.add(new Model.Mark(4, a, b, c, null));
                    }
                }
            }
        }
        everyTwo("abcdef", all);
    }

    /** Every two MARKS of three BYTES that are no moves, and moves beside them. */
    private static void allRanges() {
        DUE.sentence(0, "CLASH of two MARKS (of any HANDS), 0: none; the least kind that there is:");
        List<Model.Mark> all = new ArrayList<>();
        for (int a = 0; a <= 3; a++) {
            all.add(new Model.Mark(0, a, -1, -1, "x"));
            all.add(new Model.Mark(0, a, -1, -1, "y"));
            for (int b = a + 1; b <= 3; b++) {
                for (int kind : new int[] {1, 2, 3, 5}) {
                    all.add(new Model.Mark(kind, a, b, -1, null));
                }
            }
        }
        all.add(new Model.Mark(4, 0, 1, 3, null));
        all.add(new Model.Mark(4, 1, 2, 0, null));
        all.add(new Model.Mark(4, 2, 3, 1, null));
        everyTwo("abc", all);
    }

    private static String told(Model.Mark mark) {
        String[] verbs = {"ins", "del", "cap", "low", "move", "stet"};
        String rest = mark.kind() == 0 ? "'" + mark.text() + "'" : mark.b() + (mark.kind() == 4 ? " " + mark.c() : "");
        return verbs[mark.kind()] + " " + mark.a() + " " + rest;
    }

    /** Eight MARKS of one HAND and one of another at a time, so that an object has few calls. */
    private static void everyTwo(String galley, List<Model.Mark> all) {
        for (Model.Mark one : all) {
            for (int from = 0; from < all.size(); from += 8) {
                List<Model.Mark> others = all.subList(from, Math.min(from + 8, all.size()));
                List<String> texts = new ArrayList<>();
                others.forEach(other -> texts.add(told(other)));
                GalleyMarks x = Due.hands(galley, told(one), String.join(";", texts));
                for (int k = 0; k < others.size(); k++) {
                    int want = Model.clash(one, others.get(k));
                    DUE.due(told(one) + " and " + texts.get(k), x.clash(0, 0, 1, k), want);
                    DUE.due(texts.get(k) + " and " + told(one), x.clash(1, k, 0, 0), want);
                }
            }
        }
    }

    private static void alike() {
        DUE.sentence(0, "MARKS are ALIKE if kind, PLACES and TEXT are.");
        String[][] twos = {{"del 0 1", "del 0 1"}, {"ins 0 'x'", "ins 0 'x'"}, {"move 0 1 3", "move 0 1 3"}, {"close 0", "del 0 1"},
            {"swap 0 1 3", "move 0 1 3"}, {"stet 1 2", "stet 01 002"}, {"del 0 1", "cap 0 1"}, {"cap 0 1", "low 0 1"}, {"del 0 1", "stet 0 1"},
            {"del 0 1", "del 0 2"}, {"del 1 2", "del 0 2"}, {"ins 0 'x'", "ins 1 'x'"}, {"ins 0 'x'", "ins 0 'X'"},
            {"ins 0 'x'", "ins 0 'x '"}, {"move 0 1 3", "move 0 1 2"}, {"move 0 1 3", "move 0 2 3"}, {"move 2 3 0", "move 1 3 0"},
            {"move 0 1 2", "move 1 2 0"}};
        for (int i = 0; i < twos.length; i++) {
            GalleyMarks x = Due.hands(" bcd", twos[i][0], twos[i][1]);
            DUE.due(twos[i][0] + " is ALIKE " + twos[i][1], x.mark(0, 0, 5), i < 6 ? 2 : 1);
        }
    }

    private static void agree() {
        DUE.sentence(0, "AGREE of a MARK: how many HANDS have told one ALIKE (its own, too).");
        GalleyMarks x = Due.hands(GALLEY, "del 0 1", "", "", "");
        DUE.due("its own alone", x.mark(0, 0, 5), 1);
        Due.marks(x, 0, "del 0 1;del 0 1");
        DUE.due("told again by its own", x.mark(0, 0, 5), 1);
        DUE.due("the second one", x.mark(0, 1, 5), 1);
        for (int hand = 1; hand < 4; hand++) {
            Due.marks(x, hand, "del 0 1;del 0 1");
            DUE.due("by " + (hand + 1), x.mark(0, 0, 5), hand + 1);
            DUE.due("of the last", x.mark(hand, 1, 5), hand + 1);
        }
        Due.galley(x, GALLEY);
        Due.marks(x, 3, "del 0 1");
        DUE.due("MARKS that are gone do not count", x.mark(3, 0, 5), 1);
    }

    private static void ofTwo() {
        DUE.sentence(13, "CLASH of two MARKS (unlike ones);");
        GalleyMarks x = Due.hands(GALLEY, "del 0 2;cap 1 3", "cap 1 3");
        DUE.due("of one HAND", x.clash(0, 0, 0, 1), 1);
        DUE.due("of two HANDS", x.clash(0, 0, 1, 0), 1);
        DUE.due("two that are ALIKE are two MARKS still", x.clash(0, 1, 1, 0), 0);
        DUE.due("one with itself", x.clash(0, 0, 0, 0), -1);
        DUE.due("another with itself", x.clash(1, 0, 1, 0), -1);
    }

    private static void withoutThese() {
        DUE.sentence(13, "NONE without these.");
        GalleyMarks x = Due.hands(GALLEY, "del 0 2;cap 1 3", "cap 1 3", "");
        int[][] wrong = {{0, 2}, {0, -1}, {0, 15}, {0, 16}, {1, 1}, {1, -15}, {1, -1}, {2, 0}, {2, -16}, {3, 0}, {4, 0}, {-1, 0}, {-1, 16},
            {LEAST, 0}, {MOST, 0}, {0, LEAST}, {0, MOST}};
        for (int[] w : wrong) {
            DUE.due("clash(" + w[0] + ", " + w[1] + ", 0, 0)", x.clash(w[0], w[1], 0, 0), -1);
            DUE.due("clash(0, 1, " + w[0] + ", " + w[1] + ")", x.clash(0, 1, w[0], w[1]), -1);
            DUE.due("both " + w[0] + ", " + w[1], x.clash(w[0], w[1], w[0], w[1]), -1);
        }
        DUE.due("clash(0, 0, 0, 1)", x.clash(0, 0, 0, 1), 1);
    }

    private static void howMany() {
        DUE.sentence(14, "How many twos of MARKS have a CLASH of a kind (1 to 6), 0: of any;");
        DUE.due("of none", new GalleyMarks().clashes(0), 0);
        DUE.due("of one", Due.with(GALLEY, "del 0 1").clashes(0), 0);
        GalleyMarks x = Due.hands(GALLEY, "del 0 2;cap 1 3;low 2 4", "ins 1 'x';ins 1 'y';stet 7 9", "del 7 8;move 4 5 6;move 4 5 7", "ins 1 'x'");
        // of kind 3 both 'x' with the 'y', of kind 4 each ins at 1 with the del
        int[] want = {9, 1, 1, 2, 3, 1, 1};
        for (int kind = 0; kind <= 6; kind++) {
            DUE.due("clashes(" + kind + ")", x.clashes(kind), want[kind]);
        }
        GalleyMarks all = new GalleyMarks();
        Due.galley(all, GALLEY);
        String sixteen = "move 0 1 3;move 0 1 4;".repeat(7) + "move 0 1 3;move 0 1 4";
        for (int hand = 0; hand < 4; hand++) {
            all.hand(0);
            Due.marks(all, hand, sixteen);
        }
        DUE.due("of 64 MARKS", all.clashes(6), 32 * 32);
        DUE.due("of any kind", all.clashes(0), 32 * 32);
        DUE.due("of another kind", all.clashes(5), 0);
    }

    private static void noSuchKind() {
        DUE.sentence(14, "NONE for others.");
        GalleyMarks x = Due.with(GALLEY, "del 0 2;cap 1 3");
        int[] wrong = {-1, 7, 8, LEAST, MOST};
        for (int kind : wrong) {
            DUE.due("clashes(" + kind + ")", x.clashes(kind), -1);
        }
        DUE.due("clashes(6)", x.clashes(6), 0);
        DUE.due("clashes(0)", x.clashes(0), 1);
    }
}
