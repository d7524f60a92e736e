/** Sentence by sentence, at the boundary and just beyond it: promises 26 to 28, EDIT, MOVED and FEWEST. */
public final class EdgesEditTest {
    private static final Due DUE = new Due("EdgesEditTest");
    private static final int LEAST = Integer.MIN_VALUE;
    private static final int MOST = Integer.MAX_VALUE;

    public static void main(String[] args) {
        steps();
        letters();
        cheapest();
        longest();
        ofAnEdit();
        everySmallText();
        everyOrder();
        noSuchStep();
        withAMove();
        ofSeveralMoves();
        atMost24();
        ofAMove();
        noSuchMove();
        fewestSets();
        ofSeveralSets();
        withoutClashes();
        setsAnew();
        twelve();
        noSet();
        tooMany();
        DUE.close();
    }

    /** COSTS of ins, del, cap, low and move. */
    private static GalleyMarks priced(String galley, String wish, int... costs) {
        GalleyMarks x = new GalleyMarks();
        Due.galley(x, galley);
        Due.wish(x, wish);
        for (int kind = 0; kind < costs.length; kind++) {
            x.cost(kind, costs[kind]);
        }
        return x;
    }

    private static void edit(String galley, String wish, int cost, String steps, int... costs) {
        GalleyMarks x = priced(galley, wish, costs);
        String of = " of '" + galley + "' to '" + wish + "'";
        DUE.due("cost" + of, x.edit(-1), cost);
        DUE.due("steps" + of, x.edit(-2), steps.length());
        StringBuilder got = new StringBuilder();
        for (int k = 0; k < steps.length(); k++) {
            got.append(x.edit(k));
        }
        DUE.same("EDIT" + of, got.toString(), steps);
        DUE.due("behind the last" + of, x.edit(steps.length()), -1);
    }

    private static void steps() {
        DUE.sentence(0, "EDIT: a row of steps that go through the GALLEY from its begin and make the WISH: 0 keeps a BYTE (no cost), 1 strikes one "
            + "(cost 1), 2 puts one in (cost 0), 3 makes a small letter a capital (cost 2), 4 a capital a small one (cost 3).");
        edit("", "", 0, "", 1, 2, 3, 4);
        edit("a", "a", 0, "0", 1, 2, 3, 4);
        edit("a", "", 20, "1", 10, 20, 30, 40);
        edit("", "a", 10, "2", 10, 20, 30, 40);
        edit("a", "A", 29, "3", 10, 20, 29, 40);
        edit("A", "a", 29, "4", 10, 20, 40, 29);
        edit("a", "b", 30, "12", 10, 20, 1, 1);
        edit("aBc", "Abc", 9, "340", 50, 50, 4, 5);
        // COSTS of moves, of stets and of LINES are no COSTS of an EDIT
        GalleyMarks x = priced("abc", "bca", 10, 20, 30, 40, 99);
        x.cost(5, 99);
        x.cost(6, 99);
        DUE.due("of the others alone", x.edit(-1), 30);
    }

    private static void letters() {
        DUE.sentence(0, "EDIT: a row of steps that go through the GALLEY from its begin and make the WISH: 0 keeps a BYTE (no cost), 1 strikes one "
            + "(cost 1), 2 puts one in (cost 0), 3 makes a small letter a capital (cost 2), 4 a capital a small one (cost 3).");
        String[] twins = {"aA", "zZ", "mM"};
        for (String twin : twins) {
            edit(twin.substring(0, 1), twin.substring(1), 1, "3", 50, 50, 1, 2);
            edit(twin.substring(1), twin.substring(0, 1), 2, "4", 50, 50, 1, 2);
        }
        // what is no letter has no other case, though it is 32 apart
        String[] none = {"@`", "[{", "`@", "{[", "0P", "P0", " @", "!A"};
        for (String two : none) {
            edit(two.substring(0, 1), two.substring(1), 100, "12", 50, 50, 1, 1);
        }
        edit("a", "B", 100, "12", 50, 50, 1, 1);
    }

    private static void cheapest() {
        DUE.sentence(0, "The cheapest row; of several the one whose step is less where they part.");
        // just cheaper, as dear, and dearer than to strike and put in
        edit("a", "A", 3, "3", 2, 2, 3, 9);
        edit("a", "A", 4, "12", 2, 2, 4, 9);
        edit("a", "A", 4, "12", 2, 2, 5, 9);
        edit("A", "a", 3, "4", 2, 2, 9, 3);
        edit("A", "a", 4, "12", 2, 2, 9, 4);
        // all for nothing: keep, else strike, else put in
        edit("a", "a", 0, "0");
        edit("a", "b", 0, "12");
        edit("a", "A", 0, "12");
        edit("ab", "b", 0, "10");
        edit("b", "ab", 0, "122");
        edit("ab", "ba", 0, "102");
        edit("aab", "ab", 0, "010");
        edit("ab", "aab", 0, "0122");
        // to keep is no cheaper than all the rest, but less
        edit("ab", "ab", 0, "00");
        edit("aa", "a", 5, "01", 5, 5, 5, 5);
        edit("a", "aa", 5, "02", 5, 5, 5, 5);
        edit("ab", "ba", 10, "102", 5, 5, 5, 5);
        // to keep the first would be dearer
        edit("aB", "ba", 3, "142", 1, 2, 9, 0);
        edit("ab", "AB", 4, "33", 9, 9, 2, 2);
        // strikes for nothing come ahead of what costs
        edit("ab", "b", 0, "10", 5, 0, 5, 5);
        edit("ba", "b", 0, "01", 5, 0, 5, 5);
    }

    private static void longest() {
        DUE.sentence(0, "The cheapest row; of several the one whose step is less where they part.");
        GalleyMarks x = priced("g".repeat(200), "w".repeat(200), 99, 99, 99, 99);
        DUE.due("the dearest", x.edit(-1), 400 * 99);
        DUE.due("the most steps", x.edit(-2), 400);
        DUE.due("the 200th", x.edit(199), 1);
        DUE.due("the 201st", x.edit(200), 2);
        DUE.due("the last", x.edit(399), 2);
        DUE.due("behind it", x.edit(400), -1);
        GalleyMarks y = priced("g".repeat(199) + "h", "h" + "g".repeat(199), 1, 1, 1, 1);
        DUE.due("one struck, one put in", y.edit(-1), 2);
        DUE.due("steps", y.edit(-2), 201);
        DUE.due("the first", y.edit(0), 2);
        DUE.due("the last", y.edit(200), 1);
        GalleyMarks z = priced("g".repeat(200), "G".repeat(200), 99, 99, 1, 99);
        DUE.due("all raised", z.edit(-1), 200);
        DUE.due("200 steps", z.edit(-2), 200);
        DUE.due("the last", z.edit(199), 3);
    }

    private static void ofAnEdit() {
        DUE.sentence(26, "EDIT k -1: its cost, -2: how many steps, 0 and above: that step;");
        GalleyMarks x = priced("abC", "xAbc", 5, 6, 7, 8);
        DUE.due("edit(-1)", x.edit(-1), 5 + 7 + 8);
        DUE.due("edit(-2)", x.edit(-2), 4);
        int[] steps = {2, 3, 0, 4};
        for (int k = 0; k < steps.length; k++) {
            DUE.due("edit(" + k + ")", x.edit(k), steps[k]);
        }
        // what it rests on may change
        x.cost(0, 6);
        DUE.due("by another COST", x.edit(-1), 6 + 7 + 8);
        Due.wish(x, "abC");
        DUE.due("to another WISH", x.edit(-1), 0);
        DUE.due("its steps", x.edit(-2), 3);
        Due.galley(x, "ab");
        DUE.due("of another GALLEY", x.edit(-1), 6);
        DUE.due("its steps", x.edit(-2), 3);
        DUE.due("its last step", x.edit(2), 2);
        GalleyMarks y = priced("g".repeat(50), "w".repeat(50), 1, 1, 1, 1);
        DUE.due("all struck and put in", y.edit(-2), 100);
        Due.wish(y, "G".repeat(50));
        DUE.due("all raised", y.edit(-2), 50);
        Due.wish(y, "g".repeat(50));
        DUE.due("all kept", y.edit(-2), 50);
        for (int k = 0; k < 50; k++) {
            DUE.due("step " + k, y.edit(k), 0);
        }
    }

    /** Every GALLEY and every WISH of few letters, as the other telling of the document has them. */
    private static void everySmallText() {
        DUE.sentence(0, "The cheapest row; of several the one whose step is less where they part.");
        int[][] prices = {{0, 0, 0, 0, 0}, {1, 1, 1, 1, 1}, {2, 1, 2, 3, 1}, {1, 2, 3, 2, 0}, {9, 9, 1, 1, 2}, {0, 1, 1, 0, 0}, {1, 0, 0, 1, 1}};
        for (int one = 0; one < 40; one++) {
            for (int other = 0; other < 40; other++) {
                everyPrice(small(one), small(other), prices);
            }
        }
    }

    /** Texts of up to three letters, by their number. */
    private static String small(int number) {
        String letters = "aAb";
        StringBuilder text = new StringBuilder();
        for (int rest = number; rest > 0; rest = (rest - 1) / 3) {
            text.append(letters.charAt((rest - 1) % 3));
        }
        return text.toString();
    }

    private static void everyPrice(String galley, String wish, int[][] prices) {
        for (int[] costs : prices) {
            Model model = new Model();
            model.galley = galley;
            model.wish = wish;
            System.arraycopy(costs, 0, model.costs, 0, costs.length);
            Model.Row row = model.edit(galley);
            edit(galley, wish, row.cost(), row.steps(), costs);
            int[] moved = model.moved();
            move(galley, wish, moved[0], moved[1], moved[2], moved[3], costs);
        }
    }

    /** Every WISH that is the letters of a GALLEY of five in another order. */
    private static void everyOrder() {
        DUE.sentence(0, "of several moves none first, then that with the least first PLACE, second, third.");
        int[][] prices = {{9, 9, 1, 1, 0}, {9, 9, 1, 1, 1}, {1, 1, 9, 9, 0}, {2, 3, 1, 1, 1}};
        orders("aabbc", "", prices);
        orders("abcd", "", prices);
        orders("aabcb", "", prices);
    }

    private static void orders(String left, String wish, int[][] prices) {
        for (int i = 0; i < left.length(); i++) {
            orders(left.substring(0, i) + left.substring(i + 1), wish + left.charAt(i), prices);
        }
        if (left.isEmpty()) {
            String[] galleys = {"aabbc", "ababc", "cabba", "abcd", "dabc", "aabcb"};
            for (String galley : galleys) {
                if (galley.length() == wish.length()) {
                    everyPrice(galley, wish, prices);
                }
            }
        }
    }

    private static void noSuchStep() {
        DUE.sentence(26, "NONE without it.");
        GalleyMarks x = priced("abc", "abd", 1, 1, 1, 1);
        int[] wrong = {4, 5, 400, -3, -4, LEAST, MOST};
        for (int k : wrong) {
            DUE.due("edit(" + k + ")", x.edit(k), -1);
        }
        DUE.due("edit(3)", x.edit(3), 2);
        DUE.due("of no steps", new GalleyMarks().edit(0), -1);
    }

    private static void move(String galley, String wish, int cost, int first, int second, int third, int... costs) {
        GalleyMarks x = priced(galley, wish, costs);
        String of = " of '" + galley + "' to '" + wish + "'";
        int[] want = {cost, first, second, third};
        for (int what = 0; what < 4; what++) {
            DUE.due("moved(" + what + ")" + of, x.moved(what), want[what]);
        }
    }

    private static void withAMove() {
        DUE.sentence(0, "MOVED: the cheapest EDIT if one move may be done ahead of it (cost 4 times LONG; the GALLEY with 24 BYTES at most), or none;");
        move("", "", 0, -2, -2, -2, 1, 1, 1, 1, 1);
        move("a", "a", 0, -2, -2, -2, 1, 1, 1, 1, 1);
        move("a", "b", 2, -2, -2, -2, 1, 1, 1, 1, 0);
        move("ab", "ba", 1, 0, 1, 2, 5, 5, 5, 5, 1);
        // as dear as none, just cheaper, dearer
        move("ab", "ba", 2, -2, -2, -2, 1, 1, 5, 5, 2);
        move("ab", "ba", 1, 0, 1, 2, 1, 1, 5, 5, 1);
        move("ab", "ba", 2, -2, -2, -2, 1, 1, 5, 5, 3);
        // cost times LONG: the shorter of the two passages
        move("abcde", "deabc", 6, 3, 5, 0, 9, 9, 9, 9, 3);
        move("abcde", "cdeab", 6, 0, 2, 5, 9, 9, 9, 9, 3);
        // though the passage is short, it may lie far behind, or come from there
        move("abcdex", "xabcde", 1, 5, 6, 0, 2, 2, 9, 9, 1);
        move("vwxyzabcdef", "vwxyzbcdefa", 1, 5, 6, 11, 2, 2, 9, 9, 1);
        // where all but the move costs one alone
        move("ab", "ba", 0, 0, 1, 2, 1, 0, 9, 9, 0);
        // BYTES ahead, within and behind are kept, turned, struck and put in
        move("abcDe", "baCde", 1 + 2 + 3, 0, 1, 2, 9, 9, 2, 3, 1);
        move("abcde", "dxeabc", 6 + 9, 3, 5, 0, 9, 9, 2, 9, 3);
        move("xabcdy", "xcdaby", 4, 1, 3, 5, 9, 9, 9, 9, 2);
        // and the EDIT behind it
        move("abcde", "deABc", 6 + 4, 3, 5, 0, 9, 9, 2, 9, 3);
        move("abcde", "xdeabc", 6 + 9, 3, 5, 0, 9, 9, 2, 9, 3);
    }

    private static void ofSeveralMoves() {
        DUE.sentence(0, "of several moves none first, then that with the least first PLACE, second, third.");
        // for nothing at all none is first
        move("abc", "abc", 0, -2, -2, -2);
        move("abc", "cab", 0, -2, -2, -2);
        move("aa", "aa", 0, -2, -2, -2, 1, 1, 1, 1, 0);
        // the least first PLACE: either passage may go
        move("abcd", "cdab", 0, 0, 2, 4, 1, 1, 1, 1, 0);
        move("abcd", "cdab", 2, 0, 2, 4, 9, 9, 9, 9, 1);
        move("abc", "cab", 0, 0, 2, 3, 1, 1, 1, 1, 0);
        // the least second PLACE
        move("aaab", "aaba", 1, 0, 1, 4, 9, 9, 9, 9, 1);
        move("aab", "baa", 0, 0, 2, 3, 9, 9, 9, 9, 0);
        move("aaab", "aaba", 0, 0, 1, 4, 9, 9, 9, 9, 0);
        // the least third PLACE
        move("abb", "bab", 1, 0, 1, 2, 9, 9, 9, 9, 1);
        move("baa", "aab", 1, 0, 1, 3, 9, 9, 9, 9, 1);
        move("xab", "abx", 1, 0, 1, 3, 9, 9, 9, 9, 1);
        move("bab", "bba", 1, 1, 2, 3, 9, 9, 9, 9, 1);
        move("bba", "abb", 1, 2, 3, 0, 9, 9, 9, 9, 1);
    }

    private static void atMost24() {
        DUE.sentence(0, "MOVED: the cheapest EDIT if one move may be done ahead of it (cost 4 times LONG; the GALLEY with 24 BYTES at most), or none;");
        move("x" + "y".repeat(22), "y".repeat(22) + "x", 1, 0, 1, 23, 9, 9, 9, 9, 1);
        move("x" + "y".repeat(23), "y".repeat(23) + "x", 1, 0, 1, 24, 9, 9, 9, 9, 1);
        move("x" + "y".repeat(24), "y".repeat(24) + "x", -1, -1, -1, -1, 9, 9, 9, 9, 1);
        move("y".repeat(23) + "x", "x" + "y".repeat(23), 1, 23, 24, 0, 9, 9, 9, 9, 1);
        String letters = "abcdefghijklmnopqrstuvwx";
        move(letters, "mnopqrstuvwxabcdefghijkl" + "z".repeat(176), 12 + 176 * 9, 0, 12, 24, 9, 9, 9, 9, 1);
        move("g".repeat(200), "", -1, -1, -1, -1, 1, 1, 1, 1, 1);
    }

    private static void ofAMove() {
        DUE.sentence(27, "MOVED what 0: the cost with it, 1 to 3: PLACES of the move (-2: none);");
        GalleyMarks x = priced("abcde", "ebcda", 9, 9, 9, 9, 1);
        DUE.due("a move, a BYTE struck and put in", x.moved(0), 19);
        Due.wish(x, "abdec");
        int[] want = {1, 2, 3, 5};
        for (int what = 0; what < 4; what++) {
            DUE.due("moved(" + what + ")", x.moved(what), want[what]);
        }
        Due.wish(x, "abdecxyz");
        DUE.due("a longer WISH", x.moved(0), 1 + 27);
        Due.wish(x, "abde");
        DUE.due("a shorter WISH", x.moved(0), 9);
        Due.wish(x, "abdec");
        DUE.due("the WISH again", x.moved(0), 1);
        x.cost(4, 99);
        DUE.due("by another COST", x.moved(0), 18);
        DUE.due("none", x.moved(1), -2);
        DUE.due("none", x.moved(2), -2);
        DUE.due("none", x.moved(3), -2);
    }

    private static void noSuchMove() {
        DUE.sentence(27, "NONE without these, or if the GALLEY has more than 24 BYTES.");
        GalleyMarks x = priced("ab", "ba", 9, 9, 9, 9, 1);
        int[] wrong = {4, 5, -1, -2, LEAST, MOST};
        for (int what : wrong) {
            DUE.due("moved(" + what + ")", x.moved(what), -1);
        }
        DUE.due("moved(3)", x.moved(3), 2);
        int[] sizes = {25, 26, 200};
        for (int size : sizes) {
            Due.galley(x, "g".repeat(size));
            for (int what = -1; what <= 4; what++) {
                DUE.due("moved(" + what + ") of " + size, x.moved(what), -1);
            }
        }
        Due.galley(x, "g".repeat(24));
        for (int what = 1; what <= 3; what++) {
            DUE.due("moved(" + what + ") of 24", x.moved(what), -2);
        }
        DUE.due("its cost", x.moved(0), 26 * 9);
    }

    private static void fewest(String galley, String wish, int want, String... hands) {
        GalleyMarks x = Due.hands(galley, hands);
        Due.wish(x, wish);
        DUE.due("fewest of " + String.join(" | ", hands) + " from " + galley + " to " + wish, x.fewest(), want);
    }

    private static void fewestSets() {
        DUE.sentence(0, "FEWEST: of all sets of MARKS (the HANDS' MARKS one behind the other; 12 together at most) without a CLASH by which the TEXT is "
            + "the WISH: the one with the fewest, of several the least as bits.");
        DUE.sentence(28, "FEWEST, the set;");
        // the set of none
        fewest("", "", 0);
        fewest("abc", "abc", 0);
        fewest("abc", "abc", 0, "stet 0 1;cap 0 1;low 1 2");
        fewest("abc", "bc", 1, "del 0 1");
        fewest("abc", "bc", 4, "cap 0 1", "ins 0 'x'", "del 0 1");
        // the HANDS' MARKS one behind the other, however many each has
        fewest("abcd", "aBcD", 2 + 8, "", "cap 0 1;cap 1 2", "", "cap 2 3;cap 3 4");
        fewest("abcd", "aBCd", 2 + 4, "cap 0 1", "cap 1 2", "cap 2 3", "cap 3 4");
    }

    private static void ofSeveralSets() {
        DUE.sentence(0, "FEWEST: of all sets of MARKS (the HANDS' MARKS one behind the other; 12 together at most) without a CLASH by which the TEXT is "
            + "the WISH: the one with the fewest, of several the least as bits.");
        // fewer ones are first, though greater as bits
        fewest("abc", "c", 4, "del 0 1;del 1 2;del 0 2");
        fewest("abc", "ABC", 8, "cap 0 1;cap 1 2;cap 2 3", "cap 0 3");
        // of as many the least
        fewest("abc", "bc", 1, "del 0 1", "del 0 1", "del 0 1");
        fewest("abc", "c", 1 + 4, "del 0 1;del 0 1;del 1 2;del 1 2");
        fewest("abcd", "cdab", 1, "move 2 4 0;move 0 2 4");
        fewest("abcd", "ABCD", 2 + 4, "cap 0 1;cap 0 2;cap 2 4;cap 1 4");
    }

    private static void withoutClashes() {
        DUE.sentence(0, "FEWEST: of all sets of MARKS (the HANDS' MARKS one behind the other; 12 together at most) without a CLASH by which the TEXT is "
            + "the WISH: the one with the fewest, of several the least as bits.");
        fewest("abc", "C", -2, "del 0 2;cap 1 3");
        fewest("abc", "C", 1 + 4, "del 0 2;cap 1 3;cap 2 3");
        fewest("abc", "xyabc", -2, "ins 0 'x';ins 0 'y'");
        fewest("abc", "xabc", 1, "ins 0 'x';ins 0 'x'");
        fewest("ab", "b", -2, "stet 0 1;del 0 2;ins 1 'b'");
        fewest("ab", "b", 4, "stet 0 1;del 0 2;del 0 1");
        fewest("abc", "BC", -2, "del 0 2", "cap 1 3");
        fewest("abc", "BC", -2, "", "ins 3 'x';del 0 2", "ins 3 'y'", "cap 1 3");
        fewest("abcdefgh", "efghbacd", 3, "move 0 4 8;move 0 1 2");
        fewest("abcdefgh", "efghbcda", -2, "move 0 4 8;move 0 1 4");
    }

    private static void setsAnew() {
        DUE.sentence(28, "FEWEST, the set;");
        GalleyMarks x = Due.with("abc", "ins 0 'x';ins 0 'y'");
        Due.wish(x, "xaybc");
        DUE.due("of two that have a CLASH", x.fewest(), -2);
        Due.galley(x, "abc");
        Due.marks(x, 0, "ins 0 'x';ins 1 'y'");
        DUE.due("of two that have none", x.fewest(), 3);
        Due.wish(x, "abyc");
        DUE.due("to another WISH", x.fewest(), -2);
        Due.marks(x, 0, "ins 2 'y'");
        DUE.due("of three", x.fewest(), 4);
    }

    /** One MARK for each of twelve BYTES. */
    private static String caps(int from, int to) {
        StringBuilder marks = new StringBuilder();
        for (int i = from; i < to; i++) {
            marks.append(i == from ? "" : ";").append("cap ").append(i).append(' ').append(i + 1);
        }
        return marks.toString();
    }

    private static void twelve() {
        DUE.sentence(0, "FEWEST: of all sets of MARKS (the HANDS' MARKS one behind the other; 12 together at most) without a CLASH by which the TEXT is "
            + "the WISH: the one with the fewest, of several the least as bits.");
        fewest("abcdefghijkl", "ABCDEFGHIJKL", 4095, caps(0, 12));
        fewest("abcdefghijkl", "ABCDEFGHIJKL", 4095, caps(0, 3), caps(3, 6), caps(6, 9), caps(9, 12));
        fewest("abcdefghijkl", "abcdefghijkL", 2048, caps(0, 12));
        fewest("abcdefghijkl", "abcdefghijkL", 2048, caps(0, 5), caps(5, 12));
        fewest("abcdefghijkl", "AbcdefghijkL", 2049, caps(0, 5), "", caps(5, 12));
        fewest("abcdefghijkl", "abcdefghijkl", 0, caps(0, 12));
        // a TEXT and a WISH of 200 BYTES, and a TEXT of more
        String galley = "g".repeat(180);
        fewest(galley, galley + "x".repeat(20), 1, "ins 180 '" + "x".repeat(20) + "'");
        fewest(galley + "g", galley + "g" + "x".repeat(19), -2, "ins 181 '" + "x".repeat(20) + "'");
        fewest("g".repeat(200), "g".repeat(200), 0, "ins 200 '" + "g".repeat(20) + "'");
    }

    private static void noSet() {
        DUE.sentence(28, "-2: none;");
        fewest("", "a", -2);
        fewest("abc", "abd", -2, "del 0 1;cap 1 2");
        fewest("abc", "", -2, "del 0 1;del 1 2");
        fewest("abc", "", 7, "del 0 1;del 1 2;del 2 3");
        fewest("abc", "abcx", -2);
        fewest("abc", "ab", -2);
        fewest("abcdefghijkl", "abcdefghijk", -2, caps(0, 12));
    }

    private static void tooMany() {
        DUE.sentence(28, "NONE: there are more than 12 MARKS.");
        GalleyMarks x = Due.hands("abcdefghijkl", caps(0, 6), caps(6, 12), "");
        Due.wish(x, "abcdefghijkl");
        DUE.due("12", x.fewest(), 0);
        Due.marks(x, 2, "del 0 1");
        DUE.due("13", x.fewest(), -1);
        Due.marks(x, 2, "del 0 1;del 0 1;del 0 1");
        DUE.due("16", x.fewest(), -1);
        Due.galley(x, "abc");
        DUE.due("they are gone", x.fewest(), -2);
        GalleyMarks y = Due.hands("abc", "del 0 1;".repeat(15) + "del 0 1", "del 0 1;".repeat(15) + "del 0 1", "", "");
        DUE.due("32", y.fewest(), -1);
    }
}
