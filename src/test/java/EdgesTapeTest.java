/** Sentence by sentence, at the boundary and just beyond it: promises 1 to 6, 10 and 31, and the terms that they rest on. */
public final class EdgesTapeTest {
    private static final Due DUE = new Due("EdgesTapeTest");
    private static final int LEAST = Integer.MIN_VALUE;
    private static final int MOST = Integer.MAX_VALUE;

    public static void main(String[] args) {
        constant();
        atMost512Calls();
        newObject();
        feedComesBehind();
        feedHighestFirst();
        feedFull();
        endAlone();
        endRefused();
        galleyTaken();
        galleyOfBytes();
        galleyRefused();
        wishTaken();
        wishRefused();
        handTaken();
        handRefused();
        at();
        atRefused();
        counts();
        countsRefused();
        DUE.close();
    }

    private static String of(int sign) {
        return String.valueOf((char) sign);
    }

    private static void constant() {
        DUE.sentence(0, "The constants: `NONE = -1`: None.");
        DUE.due("NONE", GalleyMarks.NONE, -1);
    }

    /** Each turn goes through changes and questions that keep something for later. */
    private static void atMost512Calls() {
        DUE.sentence(0, "An object is used for at most 512 calls after it has been made; what later calls answer is free.");
        GalleyMarks x = new GalleyMarks();
        int calls = 0;
        for (int turn = 0; turn < 46; turn++) {
            x.feed(0x64656c20, 0x30203120, 0x20202020, 0x20202020, 0x20202020);
            DUE.due("galley in turn " + turn, x.galley(), 20);
            x.hand(turn % 10);
            x.feed(0x64656c20, 0x30203120, 0x20202020, 0x20202020, 0x20202020);
            DUE.due("marks in turn " + turn, x.marks(0), 1);
            DUE.due("image in turn " + turn, x.image(turn % 4), 20);
            x.cost(1, turn);
            DUE.due("edit in turn " + turn, x.edit(-1), 20 * turn);
            DUE.due("moved in turn " + turn, x.moved(0), 20 * turn);
            DUE.due("fewest in turn " + turn, x.fewest(), -2);
            DUE.due("back in turn " + turn, x.back(turn % 4), 20);
            calls += 11;
        }
        for (; calls < 511; calls++) {
            x.clashes(0);
        }
        DUE.due("call 512", x.count(3), 1);
        GalleyMarks y = new GalleyMarks();
        for (int i = 0; i < 511; i++) {
            y.hand(-1);
        }
        DUE.due("call 512 behind 511 refused ones", y.hand(9), 0);
    }

    private static void newObject() {
        DUE.sentence(1, "No BYTES, no HANDS, no LAWS.");
        GalleyMarks x = new GalleyMarks();
        int[] want = {0, 0, 0, 0, 0, 0, -1, -1, -1, -1};
        for (int what = 0; what < want.length; what++) {
            DUE.due("count(" + what + ")", x.count(what), want[what]);
        }
        DUE.due("at(0, 0)", x.at(0, 0), -1);
        DUE.due("at(1, 0)", x.at(1, 0), -1);
        DUE.due("lines(0, 5)", x.lines(0, 5), 0);
        DUE.due("lines(1, 5)", x.lines(1, 5), 0);
        DUE.due("lines(2, 5)", x.lines(2, 5), -1);
        DUE.due("marks(0)", x.marks(0), -1);
        DUE.due("mark(0, 0, 0)", x.mark(0, 0, 0), -2);
        DUE.due("put(0, 0, 0)", x.put(0, 0, 0), -1);
        DUE.due("clash(0, 0, 0, 1)", x.clash(0, 0, 0, 1), -1);
        DUE.due("clashes(0)", x.clashes(0), 0);
        DUE.due("weight(0, 0, 0)", x.weight(0, 0, 0), 0);
        DUE.due("stands(0, 0, 0)", x.stands(0, 0, 0), -1);
        DUE.due("falls(0, 0, 0)", x.falls(0, 0, 0), -1);
        DUE.due("many(0, 0)", x.many(0, 0), -1);
        DUE.due("out(0)", x.out(0), -1);
        DUE.due("reads(0, 0)", x.reads(0, 0), -1);
        DUE.due("changed(0, 5)", x.changed(0, 5), -1);
        DUE.due("run(0, 5, 1)", x.run(0, 5, 1), -1);
        DUE.due("costs(0, 5)", x.costs(0, 5), -1);
        DUE.due("edit(-1)", x.edit(-1), 0);
        DUE.due("edit(-2)", x.edit(-2), 0);
        DUE.due("moved(0)", x.moved(0), 0);
        DUE.due("moved(1)", x.moved(1), -2);
        DUE.due("fewest()", x.fewest(), 0);
        DUE.due("unseen(0, 1, 6, 0)", x.unseen(0, 1, 6, 0), -1);
        DUE.due("rate(0, 0)", x.rate(0, 0), -1);
        DUE.due("back(0)", x.back(0), -1);
        DUE.due("end(0)", x.end(0), 0);
        DUE.due("end(1)", x.end(1), -1);
        DUE.due("the first HAND", x.hand(0), 0);
        DUE.due("the first LAW", Due.law(x, "stands 1"), 0);
        DUE.due("OUT of no BYTES", x.out(0), 0);
    }

    private static void feedComesBehind() {
        DUE.sentence(2, "Twenty bytes come behind the TAPE, of each number the highest first: how many it has;");
        GalleyMarks x = new GalleyMarks();
        for (int i = 1; i <= 10; i++) {
            int four = 0x01010101 * ('a' + i);
            DUE.due("feed " + i, x.feed(four, four, four, four, four), 20 * i);
        }
        DUE.due("galley", x.galley(), 200);
        for (int i = 0; i < 200; i++) {
            DUE.due("at(0, " + i + ")", x.at(0, i), 'b' + i / 20);
        }
        Due.tell(x, "xyz");
        DUE.due("feed behind three", x.feed(0x41414141, 0x41414141, 0x41414141, 0x41414141, 0x41414142), 23);
        DUE.due("wishes", x.wishes(), 23);
        DUE.due("the third", x.at(1, 2), 'z');
        DUE.due("behind it", x.at(1, 3), 'A');
        DUE.due("the last", x.at(1, 22), 'B');
    }

    private static void feedHighestFirst() {
        DUE.sentence(2, "Twenty bytes come behind the TAPE, of each number the highest first: how many it has;");
        GalleyMarks x = new GalleyMarks();
        x.feed(0x41424344, 0x45464748, 0x494a4b4c, 0x4d4e4f50, 0x51525354);
        DUE.due("galley", x.galley(), 20);
        for (int i = 0; i < 20; i++) {
            DUE.due("at(0, " + i + ")", x.at(0, i), 'A' + i);
        }
        int[] numbers = {0xff616161, 0x61ff6161, 0x6161ff61, 0x616161ff, LEAST, MOST, -1, 0};
        int[] places = {0, 1, 2, 3, 0, 0, 0, 0};
        for (int i = 0; i < numbers.length; i++) {
            x.feed(numbers[i], 0, 0, 0, 0);
            DUE.due("byte that is none of " + numbers[i], x.galley(), -2 - places[i]);
            x.feed(0x61616161, 0x61616161, 0x61616161, 0x61616161, numbers[i]);
            DUE.due("in the fifth number " + numbers[i], x.wishes(), -2 - 16 - places[i]);
        }
    }

    private static void feedFull() {
        DUE.sentence(2, "NONE, and none comes, if it would have more than 400.");
        GalleyMarks x = new GalleyMarks();
        for (int i = 1; i <= 20; i++) {
            DUE.due("feed " + i, x.feed(0, 0, 0, 0, 0), 20 * i);
        }
        DUE.due("feed at 400", x.feed(0, 0, 0, 0, 0), -1);
        DUE.due("bytes", x.count(5), 400);
        x.end(381);
        DUE.due("feed at 381", x.feed(0, 0, 0, 0, 0), -1);
        DUE.due("bytes", x.count(5), 381);
        x.end(380);
        DUE.due("feed at 380", x.feed(0, 0, 0, 0, 0), 400);
        // what was refused is no part of a text that ends where it would have come
        x.end(0);
        x.hand(0);
        Due.tell(x, "ins 0 'x'" + " ".repeat(391));
        x.end(390);
        DUE.due("feed of signs at 390", x.feed(0x3b3b3b3b, 0x3b3b3b3b, 0x3b3b3b3b, 0x3b3b3b3b, 0x3b3b3b3b), -1);
        DUE.due("the text is as it was", x.marks(0), 1);
    }

    private static void endAlone() {
        DUE.sentence(3, "The TAPE has its first n bytes alone: n;");
        GalleyMarks x = new GalleyMarks();
        Due.tell(x, "abcdefghijklmnopqrst");
        DUE.due("end(20)", x.end(20), 20);
        DUE.due("end(19)", x.end(19), 19);
        DUE.due("end(5)", x.end(5), 5);
        DUE.due("bytes", x.count(5), 5);
        DUE.due("feed behind them", x.feed(0x41414141, 0x41414141, 0x41414141, 0x41414141, 0x41414141), 25);
        DUE.due("galley", x.galley(), 25);
        DUE.due("the fifth", x.at(0, 4), 'e');
        DUE.due("behind it", x.at(0, 5), 'A');
        Due.tell(x, "abc");
        DUE.due("end(0)", x.end(0), 0);
        DUE.due("an empty TAPE", x.count(5), 0);
        DUE.due("a WISH without BYTES", x.wishes(), 0);
        Due.tell(x, "q".repeat(400));
        DUE.due("end(400)", x.end(400), 400);
    }

    private static void endRefused() {
        DUE.sentence(3, "NONE, and nothing happens, if it has not so many, or n is below 0.");
        GalleyMarks x = new GalleyMarks();
        DUE.due("end(1) of an empty TAPE", x.end(1), -1);
        DUE.due("end(-1) of an empty TAPE", x.end(-1), -1);
        Due.tell(x, "abcde");
        int[] wrong = {6, 20, 400, 401, MOST, -1, -5, LEAST};
        for (int n : wrong) {
            DUE.due("end(" + n + ")", x.end(n), -1);
            DUE.due("bytes behind end(" + n + ")", x.count(5), 5);
        }
        DUE.due("galley", x.galley(), 5);
        DUE.due("the last", x.at(0, 4), 'e');
        Due.tell(x, "q".repeat(400));
        DUE.due("end(401) of a full TAPE", x.end(401), -1);
        DUE.due("bytes", x.count(5), 400);
    }

    private static void galleyTaken() {
        DUE.sentence(4, "The TAPE, which is empty then, is the GALLEY (all MARKS are gone, HANDS stay): how many BYTES;");
        GalleyMarks x = Due.hands("abc", "del 0 1", "", "cap 0 1;cap 1 2", "ins 3 'x'");
        Due.law(x, "stands rank");
        Due.wish(x, "wish");
        x.cost(6, 66);
        DUE.due("a GALLEY without BYTES", x.galley(), 0);
        DUE.due("the WISH stays", x.count(1), 4);
        DUE.due("LAWS stay", x.count(4), 1);
        DUE.due("COSTS stay", x.cost(6, 6), 66);
        DUE.due("HANDS stay", x.count(2), 4);
        DUE.due("MARKS are gone", x.count(3), 0);
        for (int hand = 0; hand < 4; hand++) {
            DUE.due("MARKS of HAND " + hand, x.count(6 + hand), 0);
            DUE.due("the first MARK of HAND " + hand, x.mark(hand, 0, 0), -2);
        }
        DUE.due("none stands", x.many(0, 1), 0);
        DUE.due("200 BYTES", Due.galley(x, "g".repeat(200)), 200);
        DUE.due("the TAPE is empty", x.count(5), 0);
        DUE.due("MARKS anew", Due.marks(x, 3, "del 199 200"), 1);
        DUE.due("rank of the HAND", x.weight(0, 3, 0), 3);
        DUE.due("the same GALLEY again", Due.galley(x, "g".repeat(200)), 200);
        DUE.due("MARKS are gone again", x.count(3), 0);
    }

    private static void galleyOfBytes() {
        DUE.sentence(0, "A GALLEY: 0 to 200 BYTES of 32 to 126 (none at first).");
        DUE.due("none at first", new GalleyMarks().count(0), 0);
        for (int sign = 0; sign < 256; sign++) {
            boolean isByte = sign >= 32 && sign <= 126;
            GalleyMarks x = new GalleyMarks();
            DUE.due("galley of " + sign, Due.galley(x, "ab" + of(sign)), isByte ? 3 : -4);
            DUE.due("at of " + sign, x.at(0, 2), isByte ? sign : -1);
            DUE.due("wishes of " + sign, Due.wish(x, "abc" + of(sign)), isByte ? 4 : -5);
        }
        for (int size = 198; size <= 203; size++) {
            DUE.due(size + " BYTES", Due.galley(new GalleyMarks(), "b".repeat(size)), size <= 200 ? size : -202);
        }
    }

    private static void galleyRefused() {
        DUE.sentence(4, "-2 less the place of the first byte that is none, or of the 201st one, and nothing else happens.");
        GalleyMarks x = Due.hands("abc", "del 0 1", "cap 0 1");
        x.image(0);
        String[] texts = {of(31), of(127), "a" + of(0), "a".repeat(199) + of(127), "a".repeat(200) + of(127), "a".repeat(201),
            "a".repeat(400), "a".repeat(199) + of(31) + "a".repeat(50), "a".repeat(201) + of(31), of(200) + "a".repeat(300)};
        int[] places = {0, 0, 1, 199, 200, 200, 200, 199, 200, 0};
        for (int i = 0; i < texts.length; i++) {
            DUE.due("galley of text " + i, Due.galley(x, texts[i]), -2 - places[i]);
            DUE.due("the TAPE is empty", x.count(5), 0);
            DUE.due("the GALLEY stays", x.count(0), 3);
            DUE.due("its first BYTE stays", x.at(0, 0), 'a');
            DUE.due("its last BYTE stays", x.at(0, 2), 'c');
            DUE.due("MARKS stay", x.count(3), 2);
            DUE.due("their CLASHES stay", x.clashes(1), 1);
        }
    }

    private static void wishTaken() {
        DUE.sentence(5, "The TAPE, which is empty then, is the WISH, likewise");
        GalleyMarks x = Due.with("abc", "cap 0 1");
        DUE.due("WISH of none", x.wishes(), 0);
        DUE.due("WISH of one", Due.wish(x, "~"), 1);
        DUE.due("the TAPE is empty", x.count(5), 0);
        DUE.due("its BYTE", x.at(1, 0), '~');
        DUE.sentence(5, "(200 BYTES at most; MARKS stay).");
        DUE.due("199 BYTES", Due.wish(x, "w".repeat(199)), 199);
        DUE.due("200 BYTES", Due.wish(x, "w".repeat(199) + " "), 200);
        DUE.due("the 200th", x.at(1, 199), ' ');
        DUE.due("201 BYTES", Due.wish(x, "w".repeat(201)), -202);
        DUE.due("MARKS stay", x.count(3), 1);
        DUE.due("the MARK stays", x.mark(0, 0, 0), 2);
        DUE.due("the GALLEY stays", x.at(0, 2), 'c');
        DUE.sentence(0, "A WISH: a text, as a GALLEY (none at first: without BYTES).");
        DUE.due("none at first", new GalleyMarks().count(1), 0);
        DUE.due("a BYTE of none", new GalleyMarks().at(1, 0), -1);
        DUE.due("less than there was", Due.wish(x, "v"), 1);
        DUE.due("behind it", x.at(1, 1), -1);
        DUE.due("none again", x.wishes(), 0);
        DUE.due("no first one", x.at(1, 0), -1);
    }

    private static void wishRefused() {
        DUE.sentence(5, "The TAPE, which is empty then, is the WISH, likewise");
        GalleyMarks x = Due.with("abc", "cap 0 1");
        Due.wish(x, "wish");
        String[] texts = {of(31), "a" + of(127), "a".repeat(199) + of(255), "a".repeat(201), "a".repeat(200) + of(31)};
        int[] places = {0, 1, 199, 200, 200};
        for (int i = 0; i < texts.length; i++) {
            DUE.due("wishes of text " + i, Due.wish(x, texts[i]), -2 - places[i]);
            DUE.due("the TAPE is empty", x.count(5), 0);
            DUE.due("the WISH stays", x.count(1), 4);
            DUE.due("its first BYTE stays", x.at(1, 0), 'w');
            DUE.due("the GALLEY stays", x.count(0), 3);
            DUE.due("MARKS stay", x.count(3), 1);
        }
    }

    private static void handTaken() {
        DUE.sentence(0, "HANDS 0 to 3, each with a rank (0 to 9);");
        GalleyMarks x = new GalleyMarks();
        Due.law(x, "stands rank");
        int[] ranks = {0, 9, 0, 5};
        DUE.sentence(6, "A HAND: its number;");
        for (int hand = 0; hand < 4; hand++) {
            DUE.due("hand(" + ranks[hand] + ")", x.hand(ranks[hand]), hand);
            DUE.due("HANDS", x.count(2), hand + 1);
            DUE.due("MARKS of it", x.count(6 + hand), 0);
            DUE.due("its MARK", Due.marks(x, hand, "ins 0 'x'"), 1);
            DUE.due("its rank", x.weight(0, hand, 0), ranks[hand]);
        }
    }

    private static void handRefused() {
        DUE.sentence(6, "NONE: there are 4, or something is not as told.");
        GalleyMarks x = new GalleyMarks();
        int[] wrong = {-1, 10, LEAST, MOST};
        for (int rank : wrong) {
            DUE.due("hand(" + rank + ")", x.hand(rank), -1);
            DUE.due("HANDS", x.count(2), 0);
        }
        Due.law(x, "stands rank");
        for (int hand = 0; hand < 4; hand++) {
            x.hand(hand + 1);
            Due.marks(x, hand, "ins 0 'x'");
        }
        for (int rank = -1; rank <= 10; rank++) {
            DUE.due("a fifth, hand(" + rank + ")", x.hand(rank), -1);
        }
        DUE.due("HANDS", x.count(2), 4);
        for (int hand = 0; hand < 4; hand++) {
            DUE.due("rank of HAND " + hand, x.weight(0, hand, 0), hand + 1);
            DUE.due("MARKS of HAND " + hand, x.count(6 + hand), 1);
        }
    }

    private static void at() {
        DUE.sentence(10, "BYTE k of what 0: the GALLEY, 1: the WISH;");
        GalleyMarks x = new GalleyMarks();
        String galley = "0123456789".repeat(20);
        String wish = "abcdefghij".repeat(20);
        Due.galley(x, galley);
        Due.wish(x, wish);
        for (int k = 0; k < 200; k++) {
            DUE.due("at(0, " + k + ")", x.at(0, k), galley.charAt(k));
            DUE.due("at(1, " + k + ")", x.at(1, k), wish.charAt(k));
        }
        DUE.sentence(10, "NONE without it.");
        DUE.due("at(0, 200)", x.at(0, 200), -1);
        DUE.due("at(1, 200)", x.at(1, 200), -1);
    }

    private static void atRefused() {
        DUE.sentence(10, "NONE without it.");
        GalleyMarks x = new GalleyMarks();
        Due.galley(x, "ab");
        Due.wish(x, "xyz");
        int[][] wrong = {{0, 2}, {0, 3}, {0, -1}, {0, LEAST}, {0, MOST}, {1, 3}, {1, -1}, {1, LEAST}, {1, MOST}, {-1, 0}, {2, 0},
            {LEAST, 0}, {MOST, 0}};
        for (int[] w : wrong) {
            DUE.due("at(" + w[0] + ", " + w[1] + ")", x.at(w[0], w[1]), -1);
        }
        DUE.due("at(0, 1)", x.at(0, 1), 'b');
        DUE.due("at(1, 2)", x.at(1, 2), 'z');
    }

    private static void counts() {
        DUE.sentence(31, "What 0: BYTES of the GALLEY, 1: of the WISH, 2: HANDS, 3: MARKS together, 4: LAWS, 5: bytes of the TAPE, "
            + "6 to 9: MARKS of that HAND (NONE without it).");
        String sixteen = "del 0 1;".repeat(15) + "del 0 1";
        GalleyMarks x = Due.hands("g".repeat(200), sixteen, sixteen, "", "del 0 1");
        Due.wish(x, "w".repeat(199));
        Due.law(x, "stands 1");
        Due.law(x, "stands 1");
        Due.law(x, "stands 1");
        Due.tell(x, "t".repeat(400));
        int[] want = {200, 199, 4, 33, 3, 400, 16, 16, 0, 1};
        for (int what = 0; what < want.length; what++) {
            DUE.due("count(" + what + ")", x.count(what), want[what]);
        }
        x.end(0);
        Due.marks(x, 2, sixteen);
        Due.marks(x, 3, sixteen.substring(8));
        DUE.due("64 MARKS", x.count(3), 64);
        GalleyMarks y = Due.hands("", "", "");
        DUE.due("a HAND without MARKS", y.count(7), 0);
        DUE.due("no such HAND", y.count(8), -1);
        DUE.due("none of these", y.count(9), -1);
    }

    private static void countsRefused() {
        DUE.sentence(31, "NONE for others.");
        GalleyMarks x = Due.hands("abc", "del 0 1", "", "", "");
        int[] wrong = {-1, -2, 10, 11, LEAST, LEAST + 6, MOST};
        for (int what : wrong) {
            DUE.due("count(" + what + ")", x.count(what), -1);
        }
    }
}
