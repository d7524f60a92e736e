import java.util.ArrayList;
import java.util.HashMap;
import java.util.HashSet;
import java.util.List;
import java.util.Map;
import java.util.Set;
import java.util.TreeMap;
import java.util.TreeSet;
import java.util.regex.Matcher;
import java.util.regex.Pattern;

/**
 * The document told a second time, in the plainest way and with all of the Java library, to compare the class
 * with. It is slow and knows nothing of the class.
 */
final class Model {
    static final class Fault extends RuntimeException {
        private static final long serialVersionUID = 1L;
        final int number;

        Fault(int place, int kind) {
            super(null, null, false, false);
            number = 1 + 8 * place + kind;
        }
    }

    record Mark(int kind, int a, int b, int c, String text) {
        int length() {
            return kind == 0 ? text.length() : b - a;
        }

        Set<Integer> bytes() {
            Set<Integer> bytes = new TreeSet<>();
            for (int i = a; i < b; i++) {
                bytes.add(i);
            }
            return bytes;
        }
    }

    record Token(String kind, String text, int place) {
    }

    String tape = "";
    String galley = "";
    String wish = "";
    List<Integer> ranks = new ArrayList<>();
    List<List<Mark>> hands = new ArrayList<>();
    int[] costs = new int[7];
    final List<String> laws = new ArrayList<>();
    private final Map<Integer, Model> images = new HashMap<>();

    static boolean isBytes(String text) {
        return text.chars().allMatch(c -> c >= 32 && c <= 126);
    }

    int text(boolean isGalley) {
        String text = tape;
        tape = "";
        for (int i = 0; i < text.length(); i++) {
            if (i == 200 || !isBytes(text.substring(i, i + 1))) {
                return -2 - i;
            }
        }
        if (isGalley) {
            galley = text;
            hands.forEach(List::clear);
        } else {
            wish = text;
        }
        return text.length();
    }

    int hand(int rank) {
        if (rank < 0 || rank > 9 || ranks.size() == 4) {
            return -1;
        }
        ranks.add(rank);
        hands.add(new ArrayList<>());
        return ranks.size() - 1;
    }

    // ---- the language of MARKS

    private static List<Token> tokens(String text) {
        List<Token> tokens = new ArrayList<>();
        Matcher m = Pattern.compile("(?<word>[a-z]+)|(?<number>[0-9]+)|(?<blank> +)|(?<sign><=|>=|[^a-z0-9 ])", Pattern.DOTALL)
            .matcher(text);
        while (m.find()) {
            for (String kind : new String[] {"word", "number", "sign"}) {
                if (m.group(kind) != null) {
                    tokens.add(new Token(kind, m.group(), m.start()));
                }
            }
        }
        tokens.add(new Token("end", "", text.length()));
        return tokens;
    }

    int marks(int hand) {
        if (hand < 0 || hand >= hands.size()) {
            return -1;
        }
        String text = tape;
        tape = "";
        try {
            List<Mark> told = new ArrayList<>();
            int from = 0;
            boolean more = true;
            while (more) {
                int[] stop = new int[1];
                told.add(clause(text, from, hands.get(hand).size() + told.size(), stop));
                Token t = nextToken(text, stop[0]);
                more = t.text.equals(";");
                if (!more && !t.kind.equals("end")) {
                    throw new Fault(t.place, 0);
                }
                from = t.place + 1;
            }
            hands.get(hand).addAll(told);
            return hands.get(hand).size();
        } catch (Fault f) {
            return -2 - f.number;
        }
    }

    private static Token nextToken(String text, int from) {
        Token t = tokens(text.substring(from)).get(0);
        return new Token(t.kind, t.text, t.place + from);
    }

    private Mark clause(String text, int from, int have, int[] stop) {
        Token verb = nextToken(text, from);
        Map<String, Integer> numbers = Map.of("ins", 1, "del", 2, "cap", 2, "low", 2, "stet", 2, "move", 3, "swap", 3, "close", 1);
        if (!numbers.containsKey(verb.text)) {
            throw new Fault(verb.place, 0);
        }
        if (have >= 16) {
            throw new Fault(verb.place, 4);
        }
        int at = verb.place + verb.text.length();
        int[] n = {-1, -1, -1};
        for (int i = 0; i < numbers.get(verb.text); i++) {
            Token t = nextToken(text, at);
            if (!t.kind.equals("number")) {
                throw new Fault(t.place, 0);
            }
            if (t.text.length() > 3) {
                throw new Fault(t.place, 1);
            }
            n[i] = Integer.parseInt(t.text);
            boolean right = n[i] <= galley.length();
            if (i == 1) {
                right &= n[1] > n[0];
            }
            if (i == 2) {
                right &= verb.text.equals("swap") ? n[2] > n[1] : n[2] < n[0] || n[2] > n[1];
            }
            if (verb.text.equals("close")) {
                right &= n[0] < galley.length() && galley.charAt(n[0]) == ' ';
            }
            if (!right) {
                throw new Fault(t.place, 1);
            }
            at = t.place + t.text.length();
        }
        stop[0] = at;
        switch (verb.text) {
            case "ins":
                return ins(text, at, n[0], stop);
            case "close":
                return new Mark(1, n[0], n[0] + 1, -1, null);
            case "swap":
                return new Mark(4, n[0], n[1], n[2], null);
            default:
                return new Mark(List.of("ins", "del", "cap", "low", "move", "stet").indexOf(verb.text), n[0], n[1], n[2], null);
        }
    }

    private static Mark ins(String text, int from, int place, int[] stop) {
        Token quote = nextToken(text, from);
        if (!quote.text.equals("'")) {
            throw new Fault(quote.place, 0);
        }
        int first = quote.place + 1;
        int i = first;
        while (i < text.length() && text.charAt(i) != '\'') {
            if (i - first == 20 || !isBytes(text.substring(i, i + 1))) {
                throw new Fault(i, 2);
            }
            i++;
        }
        if (i == text.length()) {
            throw new Fault(i, 0);
        }
        if (i == first) {
            throw new Fault(i, 2);
        }
        stop[0] = i + 1;
        return new Mark(0, place, -1, -1, text.substring(first, i));
    }

    Mark mark(int hand, int k) {
        return hand < 0 || hand >= hands.size() || k < 0 || k >= hands.get(hand).size() ? null : hands.get(hand).get(k);
    }

    int agree(Mark m) {
        return (int) hands.stream().filter(h -> h.contains(m)).count();
    }

    // ---- CLASHES

    private static boolean common(Mark x, Mark y) {
        Set<Integer> both = x.bytes();
        both.retainAll(y.bytes());
        return !both.isEmpty();
    }

    static int clash(Mark x, Mark y) {
        int least = 0;
        for (int kind = 6; kind >= 1; kind--) {
            if (isClash(x, y, kind) || isClash(y, x, kind)) {
                least = kind;
            }
        }
        return least;
    }

    private static boolean isClash(Mark x, Mark y, int kind) {
        switch (kind) {
            case 1:
                return x.kind == 1 && (y.kind == 2 || y.kind == 3) && common(x, y);
            case 2:
                return x.kind == 2 && y.kind == 3 && common(x, y);
            case 3:
                return x.kind == 0 && y.kind == 0 && x.a == y.a && !x.text.equals(y.text);
            case 4:
                return x.kind == 0 && y.kind == 1 && y.a < x.a && x.a < y.b;
            case 5:
                return x.kind == 5 && (y.kind >= 1 && y.kind <= 4 && common(x, y) || y.kind == 0 && x.a < y.a && y.a < x.b);
            default:
                return x.kind == 4 && y.kind == 4 && !x.equals(y) && !apart(x, y) && !within(x, y) && !within(y, x);
        }
    }

    private static boolean apart(Mark x, Mark y) {
        int endX = Math.max(x.b, x.c);
        int endY = Math.max(y.b, y.c);
        int beginX = Math.min(x.a, x.c);
        int beginY = Math.min(y.a, y.c);
        return (endX <= beginY || endY <= beginX) && x.c != y.c;
    }

    private static boolean within(Mark x, Mark y) {
        List<int[]> ranges = new ArrayList<>();
        ranges.add(new int[] {y.a, y.b});
        ranges.add(y.c < y.a ? new int[] {y.c, y.a} : new int[] {y.b, y.c});
        for (int[] r : ranges) {
            boolean in = true;
            for (int p : new int[] {x.a, x.b, x.c}) {
                in &= p >= r[0] && p <= r[1];
            }
            if (in && x.c != r[0] && x.c != r[1]) {
                return true;
            }
        }
        return false;
    }

    // ---- the language of LAWS: read anew for each MARK, with the value at once

    private final class Reading {
        final List<Token> tokens;
        final Map<String, Long> words;
        int next;
        int counted;

        Reading(String text, Map<String, Long> words) {
            tokens = tokens(text);
            this.words = words;
        }

        Token peek() {
            return tokens.get(next);
        }

        boolean take(String text) {
            boolean is = peek().text.equals(text) && !peek().kind.equals("end");
            if (is) {
                next++;
            }
            return is;
        }

        void need(String text) {
            if (!take(text)) {
                throw new Fault(peek().place, 0);
            }
        }

        void count(int place) {
            if (++counted > 60) {
                throw new Fault(place, 3);
            }
        }

        long law() {
            Long weight = null;
            for (int clause = 1; ; clause++) {
                int place = peek().place;
                need("stands");
                if (clause > 12) {
                    throw new Fault(place, 4);
                }
                long sum = sum();
                boolean holds = !take("if") || test(0);
                if (holds && weight == null) {
                    weight = sum;
                }
                if (peek().kind.equals("end")) {
                    return weight == null ? 0 : weight;
                }
                need(";");
            }
        }

        boolean test(int depth) {
            boolean holds = part(depth);
            while (take("or")) {
                holds = part(depth) || holds;
            }
            return holds;
        }

        boolean part(int depth) {
            boolean holds = fact(depth);
            while (take("and")) {
                holds = fact(depth) && holds;
            }
            return holds;
        }

        boolean fact(int depth) {
            int place = peek().place;
            boolean not = take("not");
            if (not || take("[")) {
                if (depth == 10) {
                    throw new Fault(place, 2);
                }
                if (not) {
                    return !fact(depth + 1);
                }
                boolean holds = test(depth + 1);
                need("]");
                return holds;
            }
            long left = sum();
            Token sign = peek();
            if (!List.of("<", "<=", "=", ">=", ">").contains(sign.text)) {
                throw new Fault(sign.place, 0);
            }
            count(sign.place);
            next++;
            int order = Long.compare(left, sum());
            return sign.text.contains("=") && order == 0 || sign.text.contains("<") && order < 0
                || sign.text.contains(">") && order > 0;
        }

        long sum() {
            long sum = term();
            while (true) {
                if (take("+")) {
                    sum += term();
                } else if (take("-")) {
                    sum -= term();
                } else {
                    return sum;
                }
            }
        }

        long term() {
            long product = value();
            while (true) {
                if (take("*")) {
                    product *= value();
                } else if (take("/")) {
                    long by = value();
                    product = by == 0 ? 0 : product / by;
                } else {
                    return product;
                }
            }
        }

        long value() {
            Token t = peek();
            if (t.kind.equals("number")) {
                if (t.text.length() > 5) {
                    throw new Fault(t.place, 1);
                }
            } else if (!words.containsKey(t.text)) {
                throw new Fault(t.place, 0);
            }
            count(t.place);
            next++;
            return t.kind.equals("number") ? Long.parseLong(t.text) : words.get(t.text);
        }
    }

    private Map<String, Long> words(int hand, int k) {
        Mark m = mark(hand, k);
        Map<String, Long> words = new HashMap<>();
        words.put("rank", m == null ? 0L : ranks.get(hand));
        words.put("hand", (long) hand);
        words.put("number", (long) k);
        words.put("kind", m == null ? 0L : m.kind);
        words.put("long", m == null ? 0L : m.length());
        words.put("place", m == null ? 0L : m.a);
        words.put("agree", m == null ? 0L : agree(m));
        return words;
    }

    int law() {
        if (laws.size() == 4) {
            return -1;
        }
        String text = tape;
        tape = "";
        try {
            new Reading(text, words(0, -1)).law();
            laws.add(text);
            return laws.size() - 1;
        } catch (Fault f) {
            return -2 - f.number;
        }
    }

    long weight(int law, int hand, int k) {
        if (law < 0 || law >= laws.size() || mark(hand, k) == null) {
            return 0;
        }
        return new Reading(laws.get(law), words(hand, k)).law();
    }

    /** All MARKS, as 16 * HAND + number. */
    List<Integer> all() {
        List<Integer> all = new ArrayList<>();
        for (int h = 0; h < hands.size(); h++) {
            for (int k = 0; k < hands.get(h).size(); k++) {
                all.add(16 * h + k);
            }
        }
        return all;
    }

    Mark of(int id) {
        return mark(id / 16, id % 16);
    }

    Map<Integer, Integer> states(int law) {
        TreeMap<Long, List<Integer>> levels = new TreeMap<>();
        for (int id : all()) {
            levels.computeIfAbsent(weight(law, id / 16, id % 16), w -> new ArrayList<>()).add(id);
        }
        Map<Integer, Integer> states = new HashMap<>();
        for (List<Integer> level : levels.descendingMap().values()) {
            List<Integer> standing = states.keySet().stream().filter(s -> states.get(s) == 1).toList();
            List<Integer> left = new ArrayList<>();
            for (int id : level) {
                if (standing.stream().anyMatch(s -> clash(of(s), of(id)) != 0)) {
                    states.put(id, 0);
                } else {
                    left.add(id);
                }
            }
            for (int id : left) {
                boolean open = left.stream().anyMatch(o -> o != id && clash(of(o), of(id)) != 0);
                states.put(id, open ? 2 : 1);
            }
        }
        return states;
    }

    int falls(int law, int id) {
        Map<Integer, Integer> states = states(law);
        if (states.get(id) != 0) {
            return -2;
        }
        return all().stream().filter(o -> states.get(o) == 1 && clash(of(o), of(id)) != 0).findFirst().get();
    }

    List<Mark> standing(int law) {
        Map<Integer, Integer> states = states(law);
        return all().stream().filter(id -> states.get(id) == 1).map(this::of).toList();
    }

    // ---- TEXT

    String text(List<Mark> marks) {
        List<String> chain = new ArrayList<>();
        for (int p = 0; p <= galley.length(); p++) {
            chain.add("P" + p);
            if (p < galley.length()) {
                chain.add("B" + p);
            }
        }
        List<Mark> moves = new ArrayList<>(marks.stream().filter(m -> m.kind == 4).distinct().toList());
        moves.sort((x, y) -> Integer.compare(span(y), span(x)));
        for (Mark m : moves) {
            List<String> part = chain.subList(chain.indexOf("B" + m.a), chain.indexOf("B" + (m.b - 1)) + 1);
            List<String> taken = new ArrayList<>(part);
            part.clear();
            chain.addAll(chain.indexOf("P" + m.c) + 1, taken);
        }
        StringBuilder text = new StringBuilder();
        for (String item : chain) {
            int p = Integer.parseInt(item.substring(1));
            if (item.charAt(0) == 'P') {
                marks.stream().filter(m -> m.kind == 0 && m.a == p).map(Mark::text).distinct().forEach(text::append);
            } else {
                text.append(turned(marks, p));
            }
        }
        return text.toString();
    }

    private static int span(Mark m) {
        return Math.max(m.b, m.c) - Math.min(m.a, m.c);
    }

    private String turned(List<Mark> marks, int p) {
        String sign = galley.substring(p, p + 1);
        for (Mark m : marks) {
            if (m.kind >= 1 && m.kind <= 3 && m.bytes().contains(p)) {
                sign = m.kind == 1 ? "" : m.kind == 2 ? sign.toUpperCase() : sign.toLowerCase();
            }
        }
        return sign;
    }

    String out(int law) {
        String text = text(standing(law));
        return text.substring(0, Math.min(400, text.length()));
    }

    // ---- LINES

    record Line(int start, String text) {
    }

    static List<Line> lines(String text, int width) {
        List<Line> pieces = new ArrayList<>();
        Matcher m = Pattern.compile("[^ ]+").matcher(text);
        List<Integer> fresh = new ArrayList<>();
        while (m.find()) {
            String word = m.group();
            for (int i = 0; i < word.length(); i += width) {
                if (word.length() > width && i == 0) {
                    fresh.add(pieces.size());
                }
                pieces.add(new Line(m.start() + i, word.substring(i, Math.min(i + width, word.length()))));
            }
        }
        List<Line> lines = new ArrayList<>();
        for (int i = 0; i < pieces.size(); i++) {
            Line piece = pieces.get(i);
            int last = lines.size() - 1;
            String joined = last < 0 ? null : lines.get(last).text + " " + piece.text;
            if (joined != null && joined.length() <= width && !fresh.contains(i)) {
                lines.set(last, new Line(lines.get(last).start, joined));
            } else {
                lines.add(piece);
            }
        }
        return lines;
    }

    Set<Integer> changed(int law, int width) {
        List<Line> one = lines(galley, width);
        List<Line> two = lines(out(law), width);
        Set<Integer> changed = new TreeSet<>();
        for (int k = 0; k < Math.max(one.size(), two.size()); k++) {
            String x = k < one.size() ? one.get(k).text : null;
            String y = k < two.size() ? two.get(k).text : null;
            if (x == null || !x.equals(y)) {
                changed.add(k);
            }
        }
        return changed;
    }

    int run(int law, int width, int page) {
        Set<Integer> pages = new HashSet<>();
        changed(law, width).forEach(k -> pages.add(k / page));
        return pages.size();
    }

    int cost(int law, int width) {
        int sum = costs[6] * changed(law, width).size();
        for (Mark m : new HashSet<>(standing(law))) {
            sum += costs[m.kind] * m.length();
        }
        return sum;
    }

    // ---- EDIT, MOVED, FEWEST

    record Row(int cost, String steps) {
        Row with(int step, int more) {
            return new Row(cost + more, step + steps);
        }

        boolean beats(Row other) {
            return other == null || cost < other.cost || cost == other.cost && steps.compareTo(other.steps) < 0;
        }
    }

    Row edit(String from) {
        Row[][] rows = new Row[from.length() + 1][wish.length() + 1];
        for (int i = from.length(); i >= 0; i--) {
            for (int j = wish.length(); j >= 0; j--) {
                List<Row> choices = new ArrayList<>();
                if (i == from.length() && j == wish.length()) {
                    choices.add(new Row(0, ""));
                }
                if (i < from.length()) {
                    choices.add(rows[i + 1][j].with(1, costs[1]));
                }
                if (j < wish.length()) {
                    choices.add(rows[i][j + 1].with(2, costs[0]));
                }
                if (i < from.length() && j < wish.length()) {
                    char g = from.charAt(i);
                    char w = wish.charAt(j);
                    if (g == w) {
                        choices.add(rows[i + 1][j + 1].with(0, 0));
                    } else if (Character.toUpperCase(g) == w) {
                        choices.add(rows[i + 1][j + 1].with(3, costs[2]));
                    } else if (Character.toLowerCase(g) == w) {
                        choices.add(rows[i + 1][j + 1].with(4, costs[3]));
                    }
                }
                for (Row row : choices) {
                    if (row.beats(rows[i][j])) {
                        rows[i][j] = row;
                    }
                }
            }
        }
        return rows[0][0];
    }

    int[] moved() {
        int[] best = {edit(galley).cost, -2, -2, -2};
        for (int a = 0; a < galley.length(); a++) {
            for (int b = a + 1; b <= galley.length(); b++) {
                for (int c = 0; c <= galley.length(); c++) {
                    if (c >= a && c <= b) {
                        continue;
                    }
                    String part = galley.substring(a, b);
                    StringBuilder moved = new StringBuilder(galley);
                    if (c < a) {
                        moved.delete(a, b).insert(c, part);
                    } else {
                        moved.insert(c, part).delete(a, b);
                    }
                    int cost = edit(moved.toString()).cost + costs[4] * (b - a);
                    if (cost < best[0]) {
                        best = new int[] {cost, a, b, c};
                    }
                }
            }
        }
        return best;
    }

    int fewest() {
        List<Integer> all = all();
        if (all.size() > 12) {
            return -1;
        }
        int best = -2;
        for (int set = 0; set < 1 << all.size(); set++) {
            List<Mark> marks = new ArrayList<>();
            for (int i = 0; i < all.size(); i++) {
                if ((set & 1 << i) != 0) {
                    marks.add(of(all.get(i)));
                }
            }
            if (best != -2 && Integer.bitCount(best) <= marks.size()) {
                continue;
            }
            boolean free = true;
            for (Mark x : marks) {
                for (Mark y : marks) {
                    free &= x == y || clash(x, y) == 0;
                }
            }
            if (free && text(marks).equals(wish)) {
                best = set;
            }
        }
        return best;
    }

    // ---- the HANDS

    private static int part(int above, int below, int part) {
        if (below == 0) {
            return -2;
        }
        int by = Math.max(above, below);
        while (above % by != 0 || below % by != 0) {
            by--;
        }
        return part == 0 ? above / by : below / by;
    }

    int unseen(int one, int other, int kind, int part) {
        Set<Mark> x = new HashSet<>(hands.get(one));
        Set<Mark> y = new HashSet<>(hands.get(other));
        x.removeIf(m -> kind != 6 && m.kind != kind);
        y.removeIf(m -> kind != 6 && m.kind != kind);
        Set<Mark> both = new HashSet<>(x);
        both.retainAll(y);
        return part((x.size() - both.size()) * (y.size() - both.size()), both.size(), part);
    }

    int rate(int hand, int part) {
        Set<Mark> told = new HashSet<>();
        for (int h = 0; h < hands.size(); h++) {
            if (h != hand) {
                told.addAll(hands.get(h));
            }
        }
        int all = told.size();
        told.retainAll(hands.get(hand));
        return part(told.size(), all, part);
    }

    // ---- IMAGES

    private void copyFrom(Model m) {
        galley = m.galley;
        wish = m.wish;
        ranks = new ArrayList<>(m.ranks);
        hands = new ArrayList<>();
        m.hands.forEach(h -> hands.add(new ArrayList<>(h)));
        costs = m.costs.clone();
    }

    int image(int k) {
        Model image = new Model();
        image.copyFrom(this);
        images.put(k, image);
        return galley.length();
    }

    int back(int k) {
        if (!images.containsKey(k)) {
            return -1;
        }
        copyFrom(images.get(k));
        return galley.length();
    }
}
