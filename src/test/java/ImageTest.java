/** Promises 32 and 33: IMAGES and going back to them. */
public final class ImageTest {
    private static final Due DUE = new Due("ImageTest");

    public static void main(String[] args) {
        allIsKept();
        lawsAndTapeStay();
        againAndAgain();
        found();
        withoutThese();
        DUE.close();
    }

    private static void allIsKept() {
        GalleyMarks x = Due.with("hello", "del 0 1;ins 5 'ab'");
        Due.wish(x, "wish");
        x.cost(3, 33);
        x.cost(6, 66);
        DUE.due("image(2)", x.image(2), 5);
        x.hand(9);
        Due.marks(x, 1, "del 0 1");
        Due.galley(x, "other text");
        Due.wish(x, "");
        x.cost(3, 1);
        x.cost(6, 2);
        DUE.due("count(0) between", x.count(0), 10);
        DUE.due("back(2)", x.back(2), 5);
        int[] want = {5, 4, 1, 2, 0, 0, 2, -1};
        for (int what = 0; what < want.length; what++) {
            DUE.due("count(" + what + ")", x.count(what), want[what]);
        }
        DUE.due("GALLEY", x.at(0, 4), 'o');
        DUE.due("WISH", x.at(1, 0), 'w');
        DUE.due("kind", x.mark(0, 1, 0), 0);
        DUE.due("TEXT", x.put(0, 1, 1), 'b');
        DUE.due("AGREE", x.mark(0, 0, 5), 1);
        DUE.due("cost of low", x.cost(3, 0), 33);
        DUE.due("cost of a LINE", x.cost(6, 0), 66);
        DUE.due("a HAND anew", x.hand(4), 1);
        DUE.due("has told none", x.count(7), 0);
    }

    private static void lawsAndTapeStay() {
        GalleyMarks x = Due.with("hello", "del 0 1");
        Due.law(x, "stands rank");
        x.image(0);
        Due.law(x, "stands 3");
        Due.tell(x, "tape");
        x.back(0);
        DUE.due("LAWS", x.count(4), 2);
        DUE.due("TAPE", x.count(5), 4);
        DUE.due("by the later LAW", x.weight(1, 0, 0), 3);
        DUE.due("by the first one", x.weight(0, 0, 0), 5);
    }

    private static void againAndAgain() {
        GalleyMarks x = Due.with("one", "");
        x.image(0);
        Due.galley(x, "three");
        x.image(1);
        DUE.due("back(0)", x.back(0), 3);
        DUE.due("back(1)", x.back(1), 5);
        DUE.due("back(0) again", x.back(0), 3);
        Due.marks(x, 0, "del 0 1");
        DUE.due("an IMAGE does not change with the sheet", x.back(0), 3);
        DUE.due("its MARKS", x.count(3), 0);
        Due.marks(x, 0, "del 0 1");
        DUE.due("image(0) anew", x.image(0), 3);
        Due.galley(x, "");
        DUE.due("back(0) to the new one", x.back(0), 3);
        DUE.due("its MARKS, too", x.count(3), 1);
    }

    private static void found() {
        GalleyMarks x = Due.with("abc", "del 0 1");
        Due.law(x, "stands 1");
        Due.wish(x, "bc");
        x.cost(1, 4);
        x.image(3);
        for (int turn = 0; turn < 2; turn++) {
            DUE.due("out", x.out(0), 2);
            DUE.due("fewest", x.fewest(), 1);
            DUE.due("edit", x.edit(-1), 4);
            DUE.due("moved", x.moved(0), 4);
            DUE.due("stands", x.stands(0, 0, 0), 1);
            Due.marks(x, 0, "cap 0 2");
            Due.wish(x, "q");
            x.cost(1, 9);
            DUE.due("out of others", x.out(0), 3);
            DUE.due("fewest of others", x.fewest(), -2);
            DUE.due("edit of others", x.edit(-1), 27);
            DUE.due("moved of others", x.moved(0), 27);
            DUE.due("stands no more", x.stands(0, 0, 0), 2);
            DUE.due("clashes", x.clashes(0), 1);
            x.back(3);
            DUE.due("clashes behind back", x.clashes(0), 0);
        }
    }

    private static void withoutThese() {
        GalleyMarks x = Due.with("abc", "del 0 1");
        int[] wrong = {-1, 4, Integer.MIN_VALUE, Integer.MAX_VALUE};
        for (int k : wrong) {
            DUE.due("image(" + k + ")", x.image(k), -1);
            DUE.due("back(" + k + ")", x.back(k), -1);
        }
        for (int k = 0; k < 4; k++) {
            DUE.due("back(" + k + ") of none", x.back(k), -1);
        }
        DUE.due("nothing happened", x.count(3), 1);
        DUE.due("image(3)", x.image(3), 3);
        DUE.due("back(2)", x.back(2), -1);
        DUE.due("image of nothing", new GalleyMarks().image(0), 0);
    }
}
