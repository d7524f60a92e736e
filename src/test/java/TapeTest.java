/** Promises 1 to 6, 10 and 31: a new object, the TAPE, the GALLEY, the WISH, HANDS and what is counted. */
public final class TapeTest {
    private static final Due DUE = new Due("TapeTest");

    public static void main(String[] args) {
        newObject();
        feedAndEnd();
        bytesComeHighestFirst();
        galley();
        wishes();
        hands();
        counts();
        DUE.close();
    }

    private static void newObject() {
        GalleyMarks x = new GalleyMarks();
        for (int what = 0; what <= 5; what++) {
            DUE.due("new count(" + what + ")", x.count(what), 0);
        }
        for (int what = 6; what <= 9; what++) {
            DUE.due("new count(" + what + ")", x.count(what), -1);
        }
        DUE.due("new out(0)", x.out(0), -1);
        DUE.due("new at(0, 0)", x.at(0, 0), -1);
        DUE.due("new at(1, 0)", x.at(1, 0), -1);
        for (int kind = 0; kind <= 6; kind++) {
            DUE.due("new cost", x.cost(kind, 0), 0);
        }
        for (int k = 0; k < 4; k++) {
            DUE.due("new back(" + k + ")", x.back(k), -1);
        }
        GalleyMarks y = new GalleyMarks();
        DUE.due("new moved(1)", y.moved(1), -2);
        DUE.due("new moved(2)", y.moved(2), -2);
        DUE.due("new moved(3)", y.moved(3), -2);
        DUE.due("new moved(0)", y.moved(0), 0);
        DUE.due("new edit(-1)", new GalleyMarks().edit(-1), 0);
        DUE.due("new edit(-2)", new GalleyMarks().edit(-2), 0);
        DUE.due("new edit(0)", new GalleyMarks().edit(0), -1);
        DUE.due("new clashes(0)", x.clashes(0), 0);
        DUE.due("new fewest()", new GalleyMarks().fewest(), 0);
        DUE.due("NONE", GalleyMarks.NONE, -1);
    }

    private static void feedAndEnd() {
        GalleyMarks x = new GalleyMarks();
        for (int i = 1; i <= 20; i++) {
            DUE.due("feed " + i, x.feed(i, i, i, i, i), 20 * i);
        }
        DUE.due("feed 21", x.feed(1, 1, 1, 1, 1), -1);
        DUE.due("count(5) full", x.count(5), 400);
        DUE.due("end(401)", x.end(401), -1);
        DUE.due("end(-1)", x.end(-1), -1);
        DUE.due("end(min)", x.end(Integer.MIN_VALUE), -1);
        DUE.due("count(5) still", x.count(5), 400);
        DUE.due("end(400)", x.end(400), 400);
        DUE.due("end(381)", x.end(381), 381);
        DUE.due("feed at 381", x.feed(1, 1, 1, 1, 1), -1);
        DUE.due("count(5) at 381", x.count(5), 381);
        DUE.due("end(380)", x.end(380), 380);
        DUE.due("feed at 380", x.feed(1, 1, 1, 1, 1), 400);
        DUE.due("end(0)", x.end(0), 0);
        DUE.due("end(1)", x.end(1), -1);
    }

    private static void bytesComeHighestFirst() {
        GalleyMarks x = new GalleyMarks();
        x.feed(0x41424344, 0x45464748, 0x494a4b4c, 0x4d4e4f50, 0x51525354);
        DUE.due("galley", x.galley(), 20);
        for (int i = 0; i < 20; i++) {
            DUE.due("at(0, " + i + ")", x.at(0, i), 'A' + i);
        }
        x.feed(0x80ffffff, 0, 0, 0, 0);
        DUE.due("a byte of 128", x.galley(), -2);
    }

    private static void galley() {
        GalleyMarks x = new GalleyMarks();
        x.hand(3);
        DUE.due("galley", Due.galley(x, "ab ~c"), 5);
        DUE.due("count(5)", x.count(5), 0);
        Due.marks(x, 0, "del 0 1");
        DUE.due("galley at fault", Due.galley(x, "abc" + (char) 127), -5);
        DUE.due("TAPE is empty behind a fault", x.count(5), 0);
        DUE.due("GALLEY stays", x.count(0), 5);
        DUE.due("MARKS stay", x.count(3), 1);
        DUE.due("first byte wrong", Due.galley(x, (char) 31 + "bc"), -2);
        DUE.due("byte 255", Due.galley(x, "a" + (char) 255), -3);
        DUE.due("200 BYTES", Due.galley(x, "x".repeat(200)), 200);
        DUE.due("MARKS are gone", x.count(3), 0);
        DUE.due("MARKS of the HAND", x.count(6), 0);
        DUE.due("HANDS stay", x.count(2), 1);
        DUE.due("201 BYTES", Due.galley(x, "y".repeat(201)), -202);
        DUE.due("400 BYTES", Due.galley(x, "y".repeat(400)), -202);
        DUE.due("wrong ahead of the 201st", Due.galley(x, "y".repeat(199) + "\n" + "y".repeat(100)), -201);
        DUE.due("wrong behind the 201st", Due.galley(x, "y".repeat(202) + "\n"), -202);
        DUE.due("at(0, 199)", x.at(0, 199), 'x');
        DUE.due("at(0, 200)", x.at(0, 200), -1);
        DUE.due("at(0, -1)", x.at(0, -1), -1);
        DUE.due("at(-1, 0)", x.at(-1, 0), -1);
        DUE.due("at(2, 0)", x.at(2, 0), -1);
        DUE.due("none again", x.galley(), 0);
        DUE.due("at(0, 0)", x.at(0, 0), -1);
    }

    private static void wishes() {
        GalleyMarks x = Due.with("abc", "cap 0 1");
        DUE.due("wishes", Due.wish(x, " ~"), 2);
        DUE.due("at(1, 0)", x.at(1, 0), 32);
        DUE.due("at(1, 1)", x.at(1, 1), 126);
        DUE.due("at(1, 2)", x.at(1, 2), -1);
        DUE.due("MARKS stay", x.count(3), 1);
        DUE.due("GALLEY stays", x.count(0), 3);
        DUE.due("201", Due.wish(x, "z".repeat(201)), -202);
        DUE.due("wrong", Due.wish(x, "z\tz"), -3);
        DUE.due("TAPE is empty", x.count(5), 0);
        DUE.due("WISH stays", x.count(1), 2);
        DUE.due("200", Due.wish(x, "z".repeat(200)), 200);
        DUE.due("GALLEY told anew", Due.galley(x, "q"), 1);
        DUE.due("WISH stays", x.count(1), 200);
    }

    private static void hands() {
        GalleyMarks x = new GalleyMarks();
        DUE.due("hand(-1)", x.hand(-1), -1);
        DUE.due("hand(10)", x.hand(10), -1);
        DUE.due("hand(0)", x.hand(0), 0);
        DUE.due("hand(9)", x.hand(9), 1);
        DUE.due("hand(9)", x.hand(9), 2);
        DUE.due("hand(1)", x.hand(1), 3);
        DUE.due("hand(1)", x.hand(1), -1);
        DUE.due("count(2)", x.count(2), 4);
    }

    private static void counts() {
        GalleyMarks x = Due.with("hello", "del 0 1;cap 1 2");
        x.hand(2);
        Due.marks(x, 1, "ins 0 'x'");
        Due.wish(x, "hi");
        Due.law(x, "stands 1");
        Due.tell(x, "abc");
        int[] want = {5, 2, 2, 3, 1, 3, 2, 1, -1, -1};
        for (int what = 0; what < 10; what++) {
            DUE.due("count(" + what + ")", x.count(what), want[what]);
        }
        DUE.due("count(-1)", x.count(-1), -1);
        DUE.due("count(10)", x.count(10), -1);
        DUE.due("count(min)", x.count(Integer.MIN_VALUE), -1);
        DUE.due("count(max)", x.count(Integer.MAX_VALUE), -1);
    }
}
