/** Sentence by sentence, at the boundary and just beyond it: promises 32 and 33, IMAGES and going back to them. */
public final class EdgesImageTest {
    private static final Due DUE = new Due("EdgesImageTest");
    private static final int LEAST = Integer.MIN_VALUE;
    private static final int MOST = Integer.MAX_VALUE;

    public static void main(String[] args) {
        made();
        fourOfThem();
        noSuchImage();
        goneBackTo();
        emptyAndFull();
        lawsAndTapeStay();
        refusedBack();
        handsGoneAndAnew();
        DUE.close();
    }

    private static final String IMAGES = "IMAGES 0 to 3: all but the LAWS and the TAPE, as it is; gone back to, it is as it was (these stay).";

    private static void made() {
        DUE.sentence(32, "An IMAGE is made: BYTES of the GALLEY;");
        GalleyMarks x = new GalleyMarks();
        DUE.due("of no BYTES", x.image(0), 0);
        Due.galley(x, "g");
        DUE.due("of one", x.image(0), 1);
        Due.galley(x, "g".repeat(200));
        DUE.due("of 200", x.image(3), 200);
        DUE.due("the first is as it was", x.back(0), 1);
        DUE.due("made anew", x.image(3), 1);
        Due.galley(x, "");
        DUE.due("the one made anew", x.back(3), 1);
    }

    private static void fourOfThem() {
        DUE.sentence(0, IMAGES);
        GalleyMarks x = new GalleyMarks();
        for (int k = 0; k < 4; k++) {
            Due.galley(x, "abcd".substring(0, k));
            DUE.due("image(" + k + ")", x.image(k), k);
        }
        for (int k = 3; k >= 0; k--) {
            DUE.due("back(" + k + ")", x.back(k), k);
            DUE.due("BYTES", x.count(0), k);
        }
        DUE.due("once more", x.back(2), 2);
        DUE.due("its last BYTE", x.at(0, 1), 'b');
    }

    private static void noSuchImage() {
        DUE.sentence(32, "NONE without it.");
        GalleyMarks x = Due.with("abc", "del 0 1");
        int[] wrong = {-1, 4, 5, LEAST, MOST};
        for (int k : wrong) {
            DUE.due("image(" + k + ")", x.image(k), -1);
            DUE.due("back(" + k + ") behind it", x.back(k), -1);
        }
        for (int k = 0; k < 4; k++) {
            DUE.due("back(" + k + "), which none of these made", x.back(k), -1);
        }
        DUE.due("MARKS", x.count(3), 1);
    }

    /** All that an IMAGE holds is one thing, then another, then the first again. */
    private static void goneBackTo() {
        DUE.sentence(33, "All is as in an IMAGE: BYTES of the GALLEY;");
        GalleyMarks x = Due.hands("abc def", "del 0 1;ins 7 'xy'", "cap 0 1");
        Due.wish(x, "bc defxy");
        Due.law(x, "stands rank");
        for (int kind = 0; kind <= 6; kind++) {
            x.cost(kind, 10 + kind);
        }
        x.image(1);
        first(x);
        other(x);
        DUE.due("back(1)", x.back(1), 7);
        first(x);
        other(x);
        DUE.due("back(1) again", x.back(1), 7);
        for (int kind = 0; kind <= 6; kind++) {
            DUE.due("COST of " + kind, x.cost(kind, 0), 10 + kind);
        }
        DUE.due("and again", x.back(1), 7);
        DUE.due("COST of a LINE", x.cost(6, 0), 16);
    }

    private static void first(GalleyMarks x) {
        int[] counts = {7, 8, 2, 3, 1, 0, 2, 1, -1, -1};
        for (int what = 0; what < counts.length; what++) {
            DUE.due("first count(" + what + ")", x.count(what), counts[what]);
        }
        DUE.due("BYTE of the GALLEY", x.at(0, 6), 'f');
        DUE.due("BYTE of the WISH", x.at(1, 7), 'y');
        DUE.due("BYTE of a TEXT", x.put(0, 1, 1), 'y');
        DUE.due("a MARK", x.mark(0, 0, 2), 1);
        DUE.due("AGREE", x.mark(0, 0, 5), 1);
        DUE.due("CLASHES", x.clashes(0), 1);
        DUE.due("rank of HAND 1", x.weight(0, 1, 0), 1);
        DUE.due("it FALLS", x.stands(0, 0, 0), 0);
        DUE.same("OUT", Due.out(x, 0), "Abc defxy");
        DUE.due("LINES", x.lines(0, 5), 2);
        DUE.due("COST", x.costs(0, 60), 10 * 2 + 12 + 16);
        DUE.due("EDIT", x.edit(-1), 11 + 2 * 10);
        DUE.due("MOVED", x.moved(0), 11 + 2 * 10);
        DUE.due("FEWEST", x.fewest(), 3);
        DUE.due("RATE", x.rate(0, 1), 1);
        DUE.due("UNSEEN", x.unseen(0, 1, 6, 0), -2);
    }

    private static void other(GalleyMarks x) {
        x.hand(9);
        Due.marks(x, 2, "del 0 1");
        DUE.due("AGREE between", x.mark(0, 0, 5), 2);
        Due.galley(x, "other text of more BYTES");
        Due.marks(x, 0, "low 3 4");
        Due.marks(x, 2, "low 3 4");
        Due.wish(x, "#########");
        for (int kind = 0; kind <= 6; kind++) {
            x.cost(kind, 99);
        }
        DUE.due("BYTES between", x.count(0), 24);
        DUE.due("MARKS between", x.count(3), 2);
        DUE.due("AGREE between, anew", x.mark(0, 0, 5), 2);
        DUE.due("EDIT between", x.edit(-1), (24 + 9) * 99);
        DUE.due("MOVED between", x.moved(0), (24 + 9) * 99);
        DUE.due("FEWEST between", x.fewest(), -2);
        DUE.same("OUT between", Due.out(x, 0), "other text of more BYTES");
    }

    private static void emptyAndFull() {
        DUE.sentence(33, "All is as in an IMAGE: BYTES of the GALLEY;");
        GalleyMarks x = new GalleyMarks();
        x.image(0);
        Due.galley(x, "g".repeat(200));
        Due.wish(x, "w".repeat(200));
        String sixteen = "ins 200 'x';".repeat(15) + "del 199 200";
        for (int hand = 0; hand < 4; hand++) {
            x.hand(9);
            Due.marks(x, hand, sixteen);
        }
        DUE.due("image of all that there can be", x.image(3), 200);
        DUE.due("back to nothing", x.back(0), 0);
        int[] none = {0, 0, 0, 0, 0, 0, -1, -1, -1, -1};
        for (int what = 0; what < none.length; what++) {
            DUE.due("none, count(" + what + ")", x.count(what), none[what]);
        }
        DUE.due("no first BYTE", x.at(0, 0), -1);
        DUE.due("no first MARK", x.mark(0, 0, 0), -2);
        DUE.due("back to all", x.back(3), 200);
        int[] all = {200, 200, 4, 64, 0, 0, 16, 16, 16, 16};
        for (int what = 0; what < all.length; what++) {
            DUE.due("all, count(" + what + ")", x.count(what), all[what]);
        }
        DUE.due("the last MARK", x.mark(3, 15, 1), 199);
        DUE.due("AGREE of it", x.mark(3, 15, 5), 4);
        DUE.due("a fifth HAND", x.hand(0), -1);
        DUE.due("a seventeenth MARK", Due.marks(x, 3, "del 0 1"), Due.fault(0, 4));
    }

    private static void lawsAndTapeStay() {
        DUE.sentence(0, IMAGES);
        GalleyMarks x = Due.with("abc", "del 0 1");
        Due.law(x, "stands 1");
        Due.tell(x, "tape of the image");
        x.image(0);
        x.end(0);
        Due.law(x, "stands 2");
        Due.law(x, "stands 3");
        Due.tell(x, "TAPE");
        DUE.due("back(0)", x.back(0), 3);
        DUE.due("LAWS stay", x.count(4), 3);
        DUE.due("the TAPE stays", x.count(5), 4);
        for (int law = 0; law < 3; law++) {
            DUE.due("WEIGHT by LAW " + law, x.weight(law, 0, 0), law + 1);
        }
        DUE.due("its bytes", x.wishes(), 4);
        DUE.due("the first", x.at(1, 0), 'T');
        DUE.due("the next LAW", Due.law(x, "stands 4"), 3);
        x.back(0);
        DUE.due("it stays", x.weight(3, 0, 0), 4);
        DUE.due("there are 4", Due.law(x, "stands 5"), -1);
        // an IMAGE is no part of what goes back
        x.end(0);
        Due.galley(x, "later");
        x.image(1);
        x.back(0);
        DUE.due("a later IMAGE stays", x.back(1), 5);
    }

    private static void refusedBack() {
        DUE.sentence(33, "NONE, and nothing happens, if it was never made, or without it.");
        GalleyMarks x = Due.with("abc", "del 0 1");
        x.image(2);
        Due.marks(x, 0, "cap 1 2");
        Due.wish(x, "wish");
        int[] wrong = {0, 1, 3, -1, 4, LEAST, MOST};
        for (int k : wrong) {
            DUE.due("back(" + k + ")", x.back(k), -1);
            DUE.due("MARKS", x.count(3), 2);
            DUE.due("WISH", x.count(1), 4);
            DUE.due("GALLEY", x.at(0, 2), 'c');
        }
        DUE.due("back(2)", x.back(2), 3);
        DUE.due("MARKS", x.count(3), 1);
        GalleyMarks y = new GalleyMarks();
        for (int k = 0; k < 4; k++) {
            DUE.due("back(" + k + ") of a new object", y.back(k), -1);
        }
    }

    private static void handsGoneAndAnew() {
        DUE.sentence(0, IMAGES);
        GalleyMarks x = Due.hands("abc", "del 0 1");
        Due.law(x, "stands rank");
        x.image(0);
        x.hand(8);
        Due.marks(x, 1, "cap 0 1;cap 1 2");
        x.image(1);
        x.back(0);
        DUE.due("the HAND is gone", x.count(7), -1);
        DUE.due("its MARKS are gone", x.mark(1, 0, 0), -2);
        DUE.due("none to tell them", x.marks(1), -1);
        DUE.due("a HAND anew", x.hand(3), 1);
        DUE.due("without MARKS", x.count(7), 0);
        Due.marks(x, 1, "low 2 3");
        DUE.due("of its own rank", x.weight(0, 1, 0), 3);
        DUE.due("back to the other", x.back(1), 3);
        DUE.due("with its rank", x.weight(0, 1, 0), 8);
        DUE.due("and MARKS", x.count(7), 2);
    }
}
