import java.util.Random;

/** No call ever throws, whatever its arguments and the state; wrong calls change nothing that is counted. */
public final class WildTest {
    private static final Due DUE = new Due("WildTest");
    private static final int[] ODD = {Integer.MIN_VALUE, Integer.MAX_VALUE, -1, -2, -3, 0, 1, 2, 3, 4, 5, 6, 7, 15, 16, 17,
        59, 60, 61, 63, 64, 199, 200, 201, 400, Integer.MAX_VALUE - 1, 1 << 28, -(1 << 28)};
    private static final String[] TEXTS = {"del 0 1", "ins 0 'x'", "move 0 1 3;cap 0 2", "stands rank", "stands 1 if agree > 1",
        "one two three", "", "close 3", "swap 0 1 2", "stands long/0", "stet 0 2", "a\nb"};

    public static void main(String[] args) {
        for (int seed = 0; seed < 400; seed++) {
            run(new Random(seed), seed);
        }
        DUE.close();
    }

    private static void run(Random random, int seed) {
        GalleyMarks x = new GalleyMarks();
        for (int i = 0; i < 512; i++) {
            String[] told = {""};
            try {
                call(x, random, told);
            } catch (RuntimeException | Error thrown) {
                DUE.holds("seed " + seed + " call " + i + " " + told[0] + " threw " + thrown, false);
                return;
            }
        }
        DUE.holds("seed " + seed, x.count(0) >= 0 && x.count(0) <= 200 && x.count(3) <= 64 && x.count(5) <= 400);
    }

    private static int odd(Random random) {
        return random.nextInt(3) == 0 ? ODD[random.nextInt(ODD.length)] : random.nextInt(5);
    }

    private static long call(GalleyMarks x, Random random, String[] told) {
        int a = odd(random);
        int b = odd(random);
        int c = odd(random);
        int d = odd(random);
        int which = random.nextInt(40);
        told[0] = which + ": " + a + ", " + b + ", " + c + ", " + d;
        switch (which) {
            case 0: return x.feed(random.nextInt(), a, b, c, d);
            case 1: return x.end(a);
            case 2: return random.nextInt(3) == 0 ? x.galley() : 0;
            case 3: return x.wishes();
            case 4: return x.hand(a);
            case 5: return x.marks(a);
            case 6: return x.law();
            case 7: return x.cost(a, b);
            case 8: return x.at(a, b);
            case 9: return x.mark(a, b, c);
            case 10: return x.put(a, b, c);
            case 11: return x.clash(a, b, c, d);
            case 12: return x.clashes(a);
            case 13: return x.weight(a, b, c);
            case 14: return x.stands(a, b, c);
            case 15: return x.falls(a, b, c);
            case 16: return x.many(a, b);
            case 17: return x.out(a);
            case 18: return x.reads(a, b);
            case 19: return x.lines(a, b);
            case 20: return x.line(a, b, c, d);
            case 21: return x.changed(a, b);
            case 22: return x.run(a, b, c);
            case 23: return x.costs(a, b);
            case 24: return x.edit(a);
            case 25: return x.moved(a);
            case 26: return x.fewest();
            case 27: return x.unseen(a, b, c, d);
            case 28: return x.rate(a, b);
            case 29: return x.count(a);
            case 30: return x.image(a);
            case 31: return x.back(a);
            default: return tell(x, random);
        }
    }

    private static long tell(GalleyMarks x, Random random) {
        x.end(0);
        String text = TEXTS[random.nextInt(TEXTS.length)];
        Due.tell(x, text);
        if (text.startsWith("stands")) {
            return x.law();
        }
        if (text.startsWith("one") || text.isEmpty() || text.startsWith("a")) {
            return random.nextBoolean() ? x.galley() : x.wishes();
        }
        return x.marks(random.nextInt(4));
    }
}
