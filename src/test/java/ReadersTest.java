/** Promises 29 and 30: how many errors nobody saw, and how many of the others' a HAND told. */
public final class ReadersTest {
    private static final Due DUE = new Due("ReadersTest");

    public static void main(String[] args) {
        unseen();
        ofKinds();
        once();
        rates();
        withoutThese();
        DUE.close();
    }

    private static GalleyMarks told(String... hands) {
        GalleyMarks x = new GalleyMarks();
        Due.galley(x, "abcdefghijklmnop");
        for (int hand = 0; hand < hands.length; hand++) {
            x.hand(hand);
            if (!hands[hand].isEmpty()) {
                Due.marks(x, hand, hands[hand]);
            }
        }
        return x;
    }

    private static void unseen(GalleyMarks x, int kind, int above, int below) {
        DUE.due("unseen above, kind " + kind, x.unseen(0, 1, kind, 0), above);
        DUE.due("unseen below, kind " + kind, x.unseen(0, 1, kind, 1), below);
        DUE.due("unseen above the other way", x.unseen(1, 0, kind, 0), above);
        DUE.due("unseen below the other way", x.unseen(1, 0, kind, 1), below);
    }

    private static void unseen() {
        unseen(told("del 0 1;del 1 2;del 2 3", "del 0 1;cap 3 4;cap 5 6;cap 6 7"), 6, 6, 1);
        unseen(told("del 0 1;del 8 9;del 1 2;del 2 3", "del 0 1;del 8 9;cap 3 4;cap 5 6;cap 6 7"), 6, 3, 1);
        unseen(told("del 0 1;del 8 9;del 1 2", "del 0 1;del 8 9;cap 3 4"), 6, 1, 2);
        unseen(told("del 0 1;del 8 9;del 9 10;del 1 2;del 2 3", "del 0 1;del 8 9;del 9 10;cap 3 4"), 6, 2, 3);
        unseen(told("del 0 1", "del 0 1"), 6, 0, 1);
        unseen(told("del 0 1;del 1 2", "del 0 1;del 1 2"), 6, 0, 1);
        unseen(told("del 0 1", "del 1 2"), 6, -2, -2);
        unseen(told("", ""), 6, -2, -2);
    }

    private static void ofKinds() {
        GalleyMarks x = told("ins 0 'a';ins 1 'b';del 0 1;del 1 2;stet 3 4", "ins 0 'a';ins 1 'c';del 0 1;stet 4 5");
        unseen(x, 0, 1, 1);
        unseen(x, 1, 0, 1);
        unseen(x, 2, -2, -2);
        unseen(x, 5, -2, -2);
        unseen(x, 6, 3, 1);
    }

    private static void once() {
        unseen(told("del 0 1;del 0 1;cap 1 2;cap 1 2;cap 1 2", "del 0 1;del 0 1;del 0 1;low 1 2;low 1 2"), 6, 1, 1);
    }

    private static void rate(GalleyMarks x, int hand, int above, int below) {
        DUE.due("rate above of " + hand, x.rate(hand, 0), above);
        DUE.due("rate below of " + hand, x.rate(hand, 1), below);
    }

    private static void rates() {
        GalleyMarks x = told("del 0 1;del 1 2", "del 0 1;cap 3 4;cap 3 4;low 7 8", "del 0 1;cap 3 4;del 1 2");
        rate(x, 0, 1, 2);
        rate(x, 1, 2, 3);
        rate(x, 2, 3, 4);
        GalleyMarks y = told("del 0 1", "");
        rate(y, 0, -2, -2);
        rate(y, 1, 0, 1);
        rate(told("del 0 1"), 0, -2, -2);
        rate(told("cap 0 1", "del 0 1;del 1 2;del 2 3"), 0, 0, 1);
        rate(told("del 0 1", "del 0 1;del 0 1"), 0, 1, 1);
    }

    private static void withoutThese() {
        GalleyMarks x = told("del 0 1", "del 0 1");
        int[][] wrong = {{0, 0, 6, 0}, {0, 2, 6, 0}, {2, 0, 6, 0}, {-1, 0, 6, 0}, {0, -1, 6, 0}, {0, 1, 7, 0},
            {0, 1, -1, 0}, {0, 1, 6, 2}, {0, 1, 6, -1}};
        for (int[] w : wrong) {
            DUE.due("unseen(" + w[0] + ", " + w[1] + ", " + w[2] + ", " + w[3] + ")",
                x.unseen(w[0], w[1], w[2], w[3]), -1);
        }
        DUE.due("rate(2, 0)", x.rate(2, 0), -1);
        DUE.due("rate(-1, 0)", x.rate(-1, 0), -1);
        DUE.due("rate(0, 2)", x.rate(0, 2), -1);
        DUE.due("rate(0, -1)", x.rate(0, -1), -1);
    }
}
