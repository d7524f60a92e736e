import java.util.List;
import java.util.Map;
import java.util.Random;

/** Runs of calls by chance (always the same ones), each answer compared with what the Model says. */
public final class ModelTest {
    private static final Due DUE = new Due("ModelTest");
    private static final String[] VERBS = {"ins", "del", "cap", "low", "stet", "move", "swap", "close"};
    private static final String[] WORDS = {"rank", "hand", "number", "kind", "long", "place", "agree"};

    private final Random random;
    private final int seed;
    private final GalleyMarks x = new GalleyMarks();
    private final Model m = new Model();
    /** Small sheets make clashes and wishes that come true. */
    private final boolean small;
    /** Moves within moves are too seldom among MARKS of all kinds. */
    private final boolean manyMoves;

    private ModelTest(int seed) {
        this.seed = seed;
        random = new Random(seed);
        small = random.nextInt(3) != 0;
        manyMoves = random.nextInt(3) == 0;
    }

    public static void main(String[] args) {
        int runs = args.length > 0 ? Integer.parseInt(args[0]) : 500;
        int first = args.length > 1 ? Integer.parseInt(args[1]) : 0;
        for (int i = first; i < first + runs; i++) {
            new ModelTest(i).run();
        }
        DUE.close();
    }

    private void due(String call, long got, long want) {
        DUE.due("seed " + seed + " " + call, got, want);
    }

    private boolean chance(int of) {
        return random.nextInt(of) == 0;
    }

    private void run() {
        tell(galleyText());
        due("galley", x.galley(), m.text(true));
        for (int i = random.nextInt(4); i >= 0; i--) {
            int rank = random.nextInt(10);
            due("hand", x.hand(rank), m.hand(rank));
        }
        for (int i = 0; i < 25; i++) {
            change();
            if (chance(3)) {
                ask();
            }
        }
        ask();
        for (int i = 0; i < 4; i++) {
            askSlow();
            tell(wishText());
            due("wishes", x.wishes(), m.text(false));
            for (int kind = 0; kind < 5; kind++) {
                int cost = kind == 4 ? random.nextInt(2) : random.nextInt(5);
                due("cost", x.cost(kind, cost), m.costs[kind]);
                m.costs[kind] = cost;
            }
        }
    }

    private void tell(String text) {
        String kept = text.length() > 400 ? text.substring(0, 400) : text;
        Due.tell(x, kept);
        m.tape = kept;
        due("count(5)", x.count(5), m.tape.length());
    }

    private void change() {
        switch (random.nextInt(12)) {
            case 0:
                if (chance(4)) {
                    tell(mutated(galleyText()));
                    due("galley", x.galley(), m.text(true));
                }
                break;
            case 1:
                tell(mutated(wishText()));
                due("wishes", x.wishes(), m.text(false));
                break;
            case 2:
                int rank = random.nextInt(12) - 1;
                due("hand", x.hand(rank), m.hand(rank));
                break;
            case 3:
            case 4:
                tell(mutated(lawText()));
                due("law of " + m.tape, x.law(), m.law());
                x.end(0);
                m.tape = "";
                break;
            case 5:
                int kind = random.nextInt(7);
                int cost = chance(3) ? 0 : chance(2) ? random.nextInt(4) : random.nextInt(100);
                due("cost", x.cost(kind, cost), m.costs[kind]);
                m.costs[kind] = cost;
                break;
            case 6:
                int k = random.nextInt(4);
                due("image", x.image(k), m.image(k));
                break;
            case 7:
                int back = random.nextInt(4);
                if (chance(2)) {
                    due("back", x.back(back), m.back(back));
                }
                break;
            default:
                tell(mutated(marksText()));
                int hand = random.nextInt(Math.max(1, m.hands.size()));
                due("marks of " + m.tape + " for " + m.galley, x.marks(hand), m.marks(hand));
                x.end(0);
                m.tape = "";
        }
    }

    private String letters(int most, String of) {
        StringBuilder text = new StringBuilder();
        for (int i = random.nextInt(most + 1); i > 0; i--) {
            text.append(of.charAt(random.nextInt(of.length())));
        }
        return text.toString();
    }

    private String galleyText() {
        if (chance(10)) {
            return letters(210, "abcdefgh ABCD .");
        }
        return small ? letters(9, "abAB ") : letters(40, "abc ABC {[@`");
    }

    private String wishText() {
        if (chance(2) && !m.all().isEmpty() && m.all().size() <= 12) {
            // one that comes true by some set of MARKS, if it is without CLASHES
            List<Model.Mark> set = m.all().stream().filter(id -> chance(2)).map(m::of).toList();
            boolean free = set.stream().allMatch(a -> set.stream().allMatch(b -> a == b || Model.clash(a, b) == 0));
            if (free) {
                return m.text(set);
            }
        }
        return chance(6) ? letters(205, "abAB ") : chance(3) ? galleyText() : shifted();
    }

    /** The GALLEY with a passage moved and some letters turned. */
    private String shifted() {
        int a = random.nextInt(m.galley.length() + 1);
        int b = random.nextInt(m.galley.length() + 1);
        String part = m.galley.substring(Math.min(a, b), Math.max(a, b));
        StringBuilder text = new StringBuilder(m.galley).delete(Math.min(a, b), Math.max(a, b));
        text.insert(random.nextInt(text.length() + 1), part);
        for (int i = 0; i < text.length(); i++) {
            char sign = text.charAt(i);
            if (chance(5)) {
                text.setCharAt(i, Character.isUpperCase(sign) ? Character.toLowerCase(sign) : Character.toUpperCase(sign));
            }
        }
        return text.toString();
    }

    private String mutated(String text) {
        if (!chance(8) || text.isEmpty()) {
            return text;
        }
        StringBuilder changed = new StringBuilder(text);
        for (int i = random.nextInt(3); i >= 0 && changed.length() > 0; i--) {
            int at = random.nextInt(changed.length());
            String signs = " ;'[]<=>+-*/09azif\n" + (char) 127 + (char) 200;
            char sign = signs.charAt(random.nextInt(signs.length()));
            switch (random.nextInt(4)) {
                case 0:
                    changed.setCharAt(at, sign);
                    break;
                case 1:
                    changed.insert(at, sign);
                    break;
                case 2:
                    changed.deleteCharAt(at);
                    break;
                default:
                    changed.setLength(at);
            }
        }
        return changed.toString();
    }

    private String blanks(boolean needed) {
        return (needed ? " " : "") + (chance(6) ? " ".repeat(random.nextInt(3)) : "");
    }

    private int place() {
        return random.nextInt(m.galley.length() + (chance(12) ? 3 : 1));
    }

    private String marksText() {
        StringBuilder text = new StringBuilder(blanks(false));
        for (int i = chance(8) ? 16 : random.nextInt(4); i >= 0; i--) {
            String verb = manyMoves && !chance(4) ? "move" : VERBS[random.nextInt(VERBS.length)];
            text.append(verb).append(blanks(!chance(5)));
            int a = place();
            int b = place();
            int c = place();
            if (verb.equals("ins")) {
                text.append(a).append(blanks(chance(2))).append('\'').append(putText()).append('\'');
            } else if (verb.equals("close")) {
                int blank = m.galley.indexOf(' ', Math.min(a, m.galley.length()));
                text.append(blank >= 0 && !chance(10) ? blank : a);
            } else {
                if (!chance(12)) {
                    int low = Math.min(a, b);
                    b = Math.max(a, b) + (a == b ? 1 : 0);
                    a = low;
                }
                if (verb.equals("swap") && !chance(8)) {
                    c = b + random.nextInt(Math.max(1, m.galley.length() - b)) + 1;
                }
                if (verb.equals("move") && c >= a && c <= b && !chance(8)) {
                    c = a > 0 ? random.nextInt(a) : b + 1;
                }
                text.append(a).append(blanks(true)).append(b);
                if (verb.equals("move") || verb.equals("swap")) {
                    text.append(blanks(true)).append(c);
                }
            }
            text.append(blanks(false)).append(i > 0 ? ";" : "").append(blanks(false));
        }
        return text.toString();
    }

    private String putText() {
        return chance(20) ? letters(23, "abc ") : chance(30) ? "" : letters(1, "xyAB ") + "abAB".charAt(random.nextInt(4));
    }

    private String lawText() {
        StringBuilder law = new StringBuilder(blanks(false));
        for (int i = chance(10) ? 12 : random.nextInt(3); i >= 0; i--) {
            law.append("stands").append(blanks(true)).append(sum());
            if (chance(2)) {
                law.append(blanks(true)).append("if").append(blanks(true)).append(test(chance(6) ? 12 : 2));
            }
            law.append(blanks(false)).append(i > 0 ? ";" : "");
        }
        return law.toString();
    }

    private String sum() {
        StringBuilder sum = new StringBuilder(value());
        for (int i = chance(20) ? random.nextInt(20) : random.nextInt(3); i > 0; i--) {
            sum.append(blanks(false)).append("+-*/".charAt(random.nextInt(4))).append(blanks(false)).append(value());
        }
        return sum.toString();
    }

    private String value() {
        if (chance(3)) {
            return chance(20) ? "123456" : chance(5) ? "99999" : "" + random.nextInt(8);
        }
        return WORDS[random.nextInt(WORDS.length)];
    }

    private String test(int depth) {
        StringBuilder test = new StringBuilder(fact(depth));
        for (int i = chance(3) ? random.nextInt(3) : 0; i > 0; i--) {
            test.append(blanks(true)).append(chance(2) ? "and" : "or").append(blanks(true)).append(fact(depth));
        }
        return test.toString();
    }

    private String fact(int depth) {
        boolean deep = depth > 2;
        if (depth > 0 && (deep && !chance(5) || chance(4))) {
            return chance(2) ? "not " + blanks(false) + fact(depth - 1)
                : "[" + blanks(false) + (deep ? fact(depth - 1) : test(depth - 1)) + blanks(false) + "]";
        }
        String[] signs = {"<", "<=", "=", ">=", ">"};
        return sum() + blanks(false) + signs[random.nextInt(5)] + blanks(false) + sum();
    }

    private void ask() {
        due("count(0)", x.count(0), m.galley.length());
        due("count(1)", x.count(1), m.wish.length());
        due("count(2)", x.count(2), m.hands.size());
        due("count(3)", x.count(3), m.all().size());
        due("count(4)", x.count(4), m.laws.size());
        askMarks();
        askClashes();
        for (int law = 0; law < m.laws.size(); law++) {
            askLaw(law);
        }
        askHands();
        askLines(0, m.galley);
        askLines(1, m.wish);
    }

    private void askMarks() {
        for (int h = 0; h < 4; h++) {
            due("count(" + (6 + h) + ")", x.count(6 + h), h < m.hands.size() ? m.hands.get(h).size() : -1);
        }
        for (int id : m.all()) {
            Model.Mark mark = m.of(id);
            int[] want = {mark.kind(), mark.a(), mark.b(), mark.c(), mark.length(), m.agree(mark)};
            for (int what = 0; what < 6; what++) {
                due("mark(" + id + ", " + what + ") " + mark, x.mark(id / 16, id % 16, what), want[what]);
            }
            int i = random.nextInt(5);
            due("put", x.put(id / 16, id % 16, i),
                mark.text() == null || i >= mark.text().length() ? -1 : mark.text().charAt(i));
        }
    }

    private void askClashes() {
        int[] found = new int[7];
        List<Integer> all = m.all();
        for (int i = 0; i < all.size(); i++) {
            for (int j = 0; j < i; j++) {
                int a = all.get(i);
                int b = all.get(j);
                int want = Model.clash(m.of(a), m.of(b));
                due("clash of " + m.of(a) + " and " + m.of(b), x.clash(a / 16, a % 16, b / 16, b % 16), want);
                if (want != 0) {
                    found[want]++;
                    found[0]++;
                }
            }
        }
        for (int kind = 0; kind <= 6; kind++) {
            due("clashes(" + kind + ")", x.clashes(kind), found[kind]);
        }
    }

    private void askLaw(int law) {
        Map<Integer, Integer> states = m.states(law);
        int[] many = new int[3];
        for (int id : m.all()) {
            due("weight by " + m.laws.get(law), x.weight(law, id / 16, id % 16), m.weight(law, id / 16, id % 16));
            due("stands", x.stands(law, id / 16, id % 16), states.get(id));
            if (chance(4)) {
                due("falls", x.falls(law, id / 16, id % 16), m.falls(law, id));
            }
            many[states.get(id)]++;
        }
        for (int what = 0; what < 3; what++) {
            due("many", x.many(law, what), many[what]);
        }
        String out = m.out(law);
        DUE.same("seed " + seed + " OUT by " + m.standing(law) + " of " + m.galley, Due.out(x, law), out);
        askLines(law + 2, out);
        int width = 5 + random.nextInt(small ? 3 : 56);
        int page = 1 + random.nextInt(chance(2) ? 3 : 60);
        due("changed", x.changed(law, width), m.changed(law, width).size());
        due("run", x.run(law, width, page), m.run(law, width, page));
        due("costs", x.costs(law, width), m.cost(law, width));
    }

    private void askLines(int what, String text) {
        int width = 5 + random.nextInt(small ? 4 : 56);
        List<Model.Line> lines = Model.lines(text, width);
        due("lines for " + width + " of " + text, x.lines(what, width), lines.size());
        for (int k = 0; k < lines.size(); k++) {
            due("line place", x.line(what, width, k, 0), lines.get(k).start());
            due("line BYTES", x.line(what, width, k, 1), lines.get(k).text().length());
        }
    }

    private void askHands() {
        for (int one = 0; one < m.hands.size(); one++) {
            int part = random.nextInt(2);
            due("rate", x.rate(one, part), m.rate(one, part));
            for (int other = 0; other < m.hands.size(); other++) {
                int kind = random.nextInt(7);
                due("unseen", x.unseen(one, other, kind, part), one == other ? -1 : m.unseen(one, other, kind, part));
            }
        }
    }

    private void askSlow() {
        Model.Row row = m.edit(m.galley);
        due("edit(-1)", x.edit(-1), row.cost());
        due("edit(-2) of " + m.galley + " to " + m.wish, x.edit(-2), row.steps().length());
        for (int k = 0; k <= row.steps().length(); k++) {
            due("edit(" + k + ")", x.edit(k), k < row.steps().length() ? row.steps().charAt(k) - '0' : -1);
        }
        if (m.galley.length() <= 12 && m.wish.length() <= 30) {
            int[] moved = m.moved();
            for (int what = 0; what < 4; what++) {
                due("moved(" + what + ") of " + m.galley + " to " + m.wish, x.moved(what), moved[what]);
            }
        }
        if (m.all().size() <= 8 || m.all().size() > 12 || chance(10)) {
            due("fewest of " + m.all().stream().map(m::of).toList() + " from " + m.galley + " to " + m.wish, x.fewest(), m.fewest());
        }
    }
}
