import java.util.ArrayList;
import java.util.List;
import java.util.function.Supplier;
import java.util.function.ToLongFunction;

/**
 * A refused call changes nothing that later calls show: of two objects made alike, one is asked something that it
 * refuses, then both are asked everything. What is asked is cut into parts, each of fresh objects, so that none of
 * them has more than 512 calls.
 */
public final class RefusedTest {
    private static final Due DUE = new Due("RefusedTest");
    private static final int LEAST = Integer.MIN_VALUE;
    private static final int MOST = Integer.MAX_VALUE;
    private static final int PART = 150;

    record Call(String told, ToLongFunction<GalleyMarks> call) {
    }

    public static void main(String[] args) {
        List<Supplier<GalleyMarks>> states = List.of(GalleyMarks::new, RefusedTest::some, RefusedTest::full);
        for (int i = 0; i < states.size(); i++) {
            for (Call refused : refusedAlways()) {
                twins("state " + i, states.get(i), refused, x -> 0);
            }
        }
        for (Call refused : refusedWhenFull()) {
            twins("full", RefusedTest::full, refused, x -> 0);
        }
        for (Call refused : refusedWithSome()) {
            twins("some", RefusedTest::some, refused, x -> 0);
        }
        faultsEmptyTheTapeAlone();
        DUE.close();
    }

    /** Two HANDS of the four, two LAWS, one IMAGE, and a TAPE with room for no more. */
    private static GalleyMarks some() {
        GalleyMarks x = Due.hands("the cat sat on", "del 4 8;ins 0 'Oh ';move 0 3 8", "cap 4 5;ins 0 'Oh ';stet 9 11");
        Due.wish(x, "the sat On");
        Due.law(x, "stands rank*2-kind if long>1;stands agree");
        Due.law(x, "stands 3");
        for (int kind = 0; kind <= 6; kind++) {
            x.cost(kind, 3 + 2 * kind);
        }
        x.image(1);
        Due.marks(x, 1, "low 0 2;close 3");
        Due.tell(x, "ins 1 'ab';del 0 2" + " ".repeat(363));
        return x;
    }

    /** All that there can be. */
    private static GalleyMarks full() {
        String sixteen = "ins 1 'x';cap 5 9;".repeat(7) + "low 8 12;move 20 30 60";
        GalleyMarks x = Due.hands("abcdefghi ".repeat(20), sixteen, sixteen, sixteen, "del 3 4;".repeat(15) + "stet 2 5");
        Due.wish(x, "abcdEfghi ".repeat(20));
        for (int law = 0; law < 4; law++) {
            Due.law(x, "stands kind*" + law + "+hand");
        }
        for (int k = 0; k < 4; k++) {
            x.image(k);
            x.cost(k, 99 - k);
        }
        Due.tell(x, "ins 1 'ab';del 0 2" + " ".repeat(382));
        return x;
    }

    private static GalleyMarks someWith(String tape) {
        GalleyMarks x = some();
        x.end(0);
        Due.tell(x, tape);
        return x;
    }

    private static Call call(String told, ToLongFunction<GalleyMarks> call) {
        return new Call(told, call);
    }

    /** What is refused whatever the state. */
    private static List<Call> refusedAlways() {
        List<Call> calls = new ArrayList<>();
        int[] wrong = {-1, LEAST, MOST};
        for (int n : wrong) {
            calls.add(call("end(" + n + ")", x -> x.end(n)));
            calls.add(call("hand(" + n + ")", x -> x.hand(n)));
            calls.add(call("marks(" + n + ")", x -> x.marks(n)));
            calls.add(call("cost(" + n + ", 1)", x -> x.cost(n, 1)));
            calls.add(call("cost(1, " + n + ")", x -> x.cost(1, n)));
            calls.add(call("at(" + n + ", 0)", x -> x.at(n, 0)));
            calls.add(call("mark(" + n + ", 0, 0)", x -> x.mark(n, 0, 0)));
            calls.add(call("mark(0, " + n + ", 0)", x -> x.mark(0, n, 0)));
            calls.add(call("put(0, 0, " + n + ")", x -> x.put(0, 0, n)));
            calls.add(call("clash(0, 0, 0, " + n + ")", x -> x.clash(0, 0, 0, n)));
            calls.add(call("clashes(" + n + ")", x -> x.clashes(n)));
            calls.add(call("stands(" + n + ", 0, 0)", x -> x.stands(n, 0, 0)));
            calls.add(call("falls(0, " + n + ", 0)", x -> x.falls(0, n, 0)));
            calls.add(call("many(0, " + n + ")", x -> x.many(0, n)));
            calls.add(call("out(" + n + ")", x -> x.out(n)));
            calls.add(call("reads(0, " + n + ")", x -> x.reads(0, n)));
            calls.add(call("lines(0, " + n + ")", x -> x.lines(0, n)));
            calls.add(call("line(0, 5, " + n + ", 0)", x -> x.line(0, 5, n, 0)));
            calls.add(call("changed(0, " + n + ")", x -> x.changed(0, n)));
            calls.add(call("run(0, 5, " + n + ")", x -> x.run(0, 5, n)));
            calls.add(call("costs(0, " + n + ")", x -> x.costs(0, n)));
            calls.add(call("moved(" + n + ")", x -> x.moved(n)));
            calls.add(call("unseen(0, 1, " + n + ", 0)", x -> x.unseen(0, 1, n, 0)));
            calls.add(call("rate(" + n + ", 0)", x -> x.rate(n, 0)));
            calls.add(call("count(" + n + ")", x -> x.count(n)));
            calls.add(call("image(" + n + ")", x -> x.image(n)));
            calls.add(call("back(" + n + ")", x -> x.back(n)));
        }
        calls.add(call("edit(-3)", x -> x.edit(-3)));
        calls.add(call("end(401)", x -> x.end(401)));
        calls.add(call("hand(10)", x -> x.hand(10)));
        calls.add(call("marks(4)", x -> x.marks(4)));
        calls.add(call("cost(7, 1)", x -> x.cost(7, 1)));
        calls.add(call("cost(6, 100)", x -> x.cost(6, 100)));
        calls.add(call("at(2, 0)", x -> x.at(2, 0)));
        calls.add(call("clash(0, 0, 0, 0)", x -> x.clash(0, 0, 0, 0)));
        calls.add(call("clashes(7)", x -> x.clashes(7)));
        calls.add(call("many(0, 3)", x -> x.many(0, 3)));
        calls.add(call("out(4)", x -> x.out(4)));
        calls.add(call("lines(0, 4)", x -> x.lines(0, 4)));
        calls.add(call("lines(0, 61)", x -> x.lines(0, 61)));
        calls.add(call("run(0, 5, 61)", x -> x.run(0, 5, 61)));
        calls.add(call("moved(4)", x -> x.moved(4)));
        calls.add(call("unseen(0, 0, 6, 0)", x -> x.unseen(0, 0, 6, 0)));
        calls.add(call("unseen(0, 1, 7, 0)", x -> x.unseen(0, 1, 7, 0)));
        calls.add(call("rate(0, 2)", x -> x.rate(0, 2)));
        calls.add(call("count(10)", x -> x.count(10)));
        calls.add(call("image(4)", x -> x.image(4)));
        calls.add(call("back(4)", x -> x.back(4)));
        return calls;
    }

    private static List<Call> refusedWhenFull() {
        List<Call> calls = new ArrayList<>();
        calls.add(call("feed", x -> x.feed(-1, 1, 2, 3, 4)));
        calls.add(call("hand(0)", x -> x.hand(0)));
        calls.add(call("hand(9)", x -> x.hand(9)));
        calls.add(call("law()", GalleyMarks::law));
        calls.add(call("fewest()", GalleyMarks::fewest));
        calls.add(call("moved(0)", x -> x.moved(0)));
        return calls;
    }

    private static List<Call> refusedWithSome() {
        List<Call> calls = new ArrayList<>();
        calls.add(call("feed", x -> x.feed(-1, 1, 2, 3, 4)));
        calls.add(call("end(382)", x -> x.end(382)));
        calls.add(call("marks(2)", x -> x.marks(2)));
        calls.add(call("mark(0, 3, 0) -2", x -> 1 + x.mark(0, 3, 0)));
        calls.add(call("out(2)", x -> x.out(2)));
        calls.add(call("lines(4, 5)", x -> x.lines(4, 5)));
        calls.add(call("count(8)", x -> x.count(8)));
        calls.add(call("rate(2, 0)", x -> x.rate(2, 0)));
        calls.add(call("back(0)", x -> x.back(0)));
        calls.add(call("back(3)", x -> x.back(3)));
        calls.add(call("edit behind the last", x -> x.edit(400)));
        return calls;
    }

    /** GALLEY, WISH, MARKS and LAWS with a FAULT: only the TAPE is empty then. */
    private static void faultsEmptyTheTapeAlone() {
        String[] texts = {"del 0 1;del 1 2;oops", "ins 0 'x';ins 0 ''", "cap 0 1;low 3 3", "del 0 1;", "\n", "x".repeat(201)};
        for (String text : texts) {
            Supplier<GalleyMarks> told = () -> someWith(text);
            twins(text, told, call("marks(0) " + text, x -> x.marks(0) < -2 ? -1 : 0), x -> x.end(0));
        }
        String[] laws = {"stands 1;stands 2;oops", "stands 1 if [1=1", "stands 123456", "stands 1" + "+1".repeat(60), ""};
        for (String text : laws) {
            Supplier<GalleyMarks> told = () -> someWith(text);
            twins(text, told, call("law() " + text, x -> x.law() < -2 ? -1 : 0), x -> x.end(0));
        }
        String[] galleys = {"\n", "abc\n", "x".repeat(201), "x".repeat(400), "ab" + (char) 127};
        for (String text : galleys) {
            Supplier<GalleyMarks> told = () -> someWith(text);
            twins(text, told, call("galley() " + text, x -> x.galley() <= -2 ? -1 : 0), x -> x.end(0));
            twins(text, told, call("wishes() " + text, x -> x.wishes() <= -2 ? -1 : 0), x -> x.end(0));
        }
    }

    /** The refused call on the one, its mend on the other, then all questions of both. */
    private static void twins(String state, Supplier<GalleyMarks> made, Call refused, ToLongFunction<GalleyMarks> mend) {
        List<Call> all = questions();
        for (int from = 0; from < all.size(); from += PART) {
            GalleyMarks one = made.get();
            GalleyMarks other = made.get();
            String of = state + ", " + refused.told();
            if (from == 0) {
                ask(one, 20);
                ask(other, 20);
            }
            long answer = refused.call().applyAsLong(one);
            mend.applyAsLong(other);
            DUE.holds(of + " is refused", answer == -1 || answer == -2);
            for (Call question : all.subList(from, Math.min(from + PART, all.size()))) {
                long want = question.call().applyAsLong(other);
                DUE.due(question.told() + " behind " + of, question.call().applyAsLong(one), want);
            }
        }
    }

    /** What was found out ahead of the refused call may be held for later. */
    private static void ask(GalleyMarks x, int questions) {
        List<Call> all = questions();
        for (int i = 0; i < all.size() && i < questions; i++) {
            all.get(i).call().applyAsLong(x);
        }
    }

    /** Questions that change nothing come first, those that show by a change behind them. */
    private static List<Call> questions() {
        List<Call> all = new ArrayList<>();
        for (int law = 0; law < 4; law++) {
            int l = law;
            all.add(call("out(" + l + ")", x -> x.out(l)));
            all.add(call("costs(" + l + ", 7)", x -> x.costs(l, 7)));
            all.add(call("run(" + l + ", 9, 2)", x -> x.run(l, 9, 2)));
        }
        all.add(call("edit(-1)", x -> x.edit(-1)));
        all.add(call("edit(-2)", x -> x.edit(-2)));
        all.add(call("moved(0)", x -> x.moved(0)));
        all.add(call("fewest()", GalleyMarks::fewest));
        for (int what = 0; what < 10; what++) {
            int w = what;
            all.add(call("count(" + w + ")", x -> x.count(w)));
            all.add(call("clashes(" + w + ")", x -> x.clashes(w)));
            all.add(call("moved(" + w + ")", x -> x.moved(w)));
        }
        for (int i = 0; i < 30; i++) {
            int k = i;
            all.add(call("edit(" + k + ")", x -> x.edit(k)));
            all.add(call("at(0, " + k + ")", x -> x.at(0, k)));
            all.add(call("at(1, " + k + ")", x -> x.at(1, k)));
        }
        marksOf(all);
        for (int what = 0; what < 6; what++) {
            int w = what;
            all.add(call("lines(" + w + ", 6)", x -> x.lines(w, 6)));
            all.add(call("line(" + w + ", 6, 1, 0)", x -> x.line(w, 6, 1, 0)));
        }
        for (int hand = 0; hand < 4; hand++) {
            int h = hand;
            all.add(call("rate(" + h + ", 0)", x -> x.rate(h, 0)));
            all.add(call("unseen(0, " + h + ", 6, 0)", x -> x.unseen(0, h, 6, 0)));
        }
        all.addAll(byChanges());
        return all;
    }

    private static void marksOf(List<Call> all) {
        for (int hand = 0; hand < 4; hand++) {
            for (int k = 0; k < 16; k += hand == 3 ? 5 : 1) {
                int h = hand;
                int n = k;
                for (int what = 0; what < 6; what += 1 + n % 2) {
                    int w = what;
                    all.add(call("mark(" + h + ", " + n + ", " + w + ")", x -> x.mark(h, n, w)));
                }
                all.add(call("put(" + h + ", " + n + ", 1)", x -> x.put(h, n, 1)));
                all.add(call("weight(0, " + h + ", " + n + ")", x -> x.weight(0, h, n)));
                all.add(call("stands(1, " + h + ", " + n + ")", x -> x.stands(1, h, n)));
                all.add(call("falls(0, " + h + ", " + n + ")", x -> x.falls(0, h, n)));
            }
        }
    }

    private static List<Call> byChanges() {
        List<Call> all = new ArrayList<>();
        for (int kind = 0; kind <= 6; kind++) {
            int k = kind;
            all.add(call("what cost(" + k + ", 0) was", x -> x.cost(k, 0)));
        }
        all.add(call("the MARKS that are on the TAPE", x -> x.marks(0)));
        all.add(call("how long the last is", x -> x.mark(0, 4, 4)));
        all.add(call("what else is on the TAPE", GalleyMarks::wishes));
        all.add(call("the next HAND", x -> x.hand(3)));
        all.add(call("the next LAW", x -> Due.law(x, "stands 7")));
        all.add(call("WEIGHT by it", x -> x.weight(2, 0, 0)));
        for (int k = 0; k < 4; k++) {
            int of = k;
            all.add(call("back(" + of + ")", x -> x.back(of)));
            for (int what = 0; what < 10; what++) {
                int w = what;
                all.add(call("count(" + w + ") of IMAGE " + of, x -> x.count(w)));
            }
            all.add(call("cost(6, 0) of IMAGE " + of, x -> x.cost(6, 0)));
            all.add(call("edit(-1) of IMAGE " + of, x -> x.edit(-1)));
            all.add(call("out(0) of IMAGE " + of, x -> x.out(0)));
        }
        all.add(call("the TAPE as a GALLEY", GalleyMarks::galley));
        return all;
    }
}
