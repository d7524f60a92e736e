import java.util.Arrays;

/**
 * A galley that comes back from readers with marks in its margin. The document (shared/DOC.md) says what
 * each call answers; words in capitals in the comments are its terms.
 */
public final class GalleyMarks {
    public static final int NONE = -1;

    /** The answer where NONE is a value or stands for wrong arguments; faults are counted down from it. */
    private static final int LACKS = -2;

    private static final int TAPE_ROOM = 400;
    private static final int TEXT_ROOM = 200;
    private static final int OUT_ROOM = 400;
    private static final int PUT_ROOM = 20;
    private static final int HAND_ROOM = 4;
    private static final int MARK_ROOM = 16;
    private static final int SLOTS = 64;
    private static final int LAW_ROOM = 4;
    private static final int IMAGE_ROOM = 4;

    private static final int BLANK = 32;
    private static final int LAST_BYTE = 126;
    private static final int QUOTE = 39;

    private static final int INS = 0;
    private static final int DEL = 1;
    private static final int CAP = 2;
    private static final int LOW = 3;
    private static final int MOVE = 4;
    private static final int STET = 5;
    private static final int KINDS = 6;

    /** The cost of a LINE that CHANGED lies behind those of the kinds. */
    private static final int LINE_COST = 6;
    private static final int DEAREST = 99;

    private static final int FALLS = 0;
    private static final int STANDS = 1;
    private static final int OPEN = 2;

    private static final int FAULT_SIGN = 0;
    private static final int FAULT_NUMBER = 1;
    private static final int FAULT_PUT = 2;
    private static final int FAULT_DEEP = 2;
    private static final int FAULT_MANY = 3;
    private static final int FAULT_ROOM = 4;

    private static final int LEAST_WIDTH = 5;
    private static final int MOST_WIDTH = 60;
    private static final int MOST_PAGE = 60;
    private static final int MOVED_ROOM = 24;
    private static final int FEWEST_ROOM = 12;

    private final Tape tape = new Tape();
    private final Sheet sheet = new Sheet();
    private final Sheet[] images = new Sheet[IMAGE_ROOM];
    private final Law[] laws = new Law[LAW_ROOM];
    private final Verdict[] verdicts = new Verdict[LAW_ROOM];
    private final MarkReader markReader = new MarkReader();
    private final LawReader lawReader = new LawReader(tape);
    private final Composer composer = new Composer();
    private final Lines firstLines = new Lines();
    private final Lines secondLines = new Lines();
    private final Edit cheapest = new Edit();
    private final Moved cheapestMove = new Moved();
    private int lawCount;
    /** Counts changes of the sheet, so that what was found out once is found out again only behind a change. */
    private int changes;
    private int fewestAt = NONE;
    private int fewestFound;

    public GalleyMarks() {
    }

    public int feed(int a, int b, int c, int d, int e) {
        if (tape.size + 20 > TAPE_ROOM) {
            return NONE;
        }
        tape.append(a);
        tape.append(b);
        tape.append(c);
        tape.append(d);
        tape.append(e);
        return tape.size;
    }

    public int end(int n) {
        if (n < 0 || n > tape.size) {
            return NONE;
        }
        tape.size = n;
        return n;
    }

    public int galley() {
        int size = tape.size;
        int wrong = tape.firstWrong();
        tape.size = 0;
        if (wrong != NONE) {
            return LACKS - wrong;
        }
        sheet.takeGalley(tape.bytes, size);
        changes++;
        return size;
    }

    public int wishes() {
        int size = tape.size;
        int wrong = tape.firstWrong();
        tape.size = 0;
        if (wrong != NONE) {
            return LACKS - wrong;
        }
        sheet.takeWish(tape.bytes, size);
        changes++;
        return size;
    }

    public int hand(int rank) {
        if (rank < 0 || rank > 9 || sheet.hands >= HAND_ROOM) {
            return NONE;
        }
        int number = sheet.hands;
        sheet.ranks[number] = rank;
        sheet.told[number] = 0;
        sheet.hands++;
        changes++;
        return number;
    }

    public int marks(int hand) {
        if (!sheet.hasHand(hand)) {
            return NONE;
        }
        markReader.readMarks(tape, sheet, sheet.told[hand]);
        tape.size = 0;
        if (tape.fault != 0) {
            return LACKS - tape.fault;
        }
        sheet.addMarks(hand, markReader.read, markReader.size);
        changes++;
        return sheet.told[hand];
    }

    public int law() {
        if (lawCount >= LAW_ROOM) {
            return NONE;
        }
        lawReader.readLaw();
        tape.size = 0;
        if (tape.fault != 0) {
            return LACKS - tape.fault;
        }
        int number = lawCount;
        laws[number] = lawReader.handOver();
        verdicts[number] = new Verdict();
        lawCount++;
        return number;
    }

    public int cost(int kind, int n) {
        if (kind < 0 || kind > LINE_COST || n < 0 || n > DEAREST) {
            return NONE;
        }
        int was = sheet.costs[kind];
        sheet.costs[kind] = n;
        changes++;
        return was;
    }

    public int at(int what, int k) {
        if (what == 0 && k >= 0 && k < sheet.galleySize) {
            return sheet.galley[k];
        }
        if (what == 1 && k >= 0 && k < sheet.wishSize) {
            return sheet.wish[k];
        }
        return NONE;
    }

    public int mark(int hand, int k, int what) {
        Mark mark = sheet.find(hand, k);
        if (mark == null) {
            return LACKS;
        }
        switch (what) {
            case 0:
                return mark.kind;
            case 1:
                return mark.first;
            case 2:
                return mark.second;
            case 3:
                return mark.third;
            case 4:
                return mark.length;
            case 5:
                return sheet.agrees[slotOf(hand, k)];
            default:
                return LACKS;
        }
    }

    public int put(int hand, int k, int i) {
        Mark mark = sheet.find(hand, k);
        if (mark == null || mark.text == null || i < 0 || i >= mark.text.length) {
            return NONE;
        }
        return mark.text[i];
    }

    public int clash(int hand, int k, int other, int l) {
        Mark one = sheet.find(hand, k);
        Mark two = sheet.find(other, l);
        if (one == null || two == null || (hand == other && k == l)) {
            return NONE;
        }
        return one.meets(two);
    }

    public int clashes(int kind) {
        if (kind < 0 || kind > 6) {
            return NONE;
        }
        int found = 0;
        for (int i = 0; i < SLOTS; i++) {
            for (int j = i + 1; j < SLOTS; j++) {
                Mark one = sheet.marks[i];
                Mark two = sheet.marks[j];
                int met = one == null || two == null ? 0 : one.meets(two);
                if (met != 0 && (kind == 0 || met == kind)) {
                    found++;
                }
            }
        }
        return found;
    }

    public long weight(int law, int hand, int k) {
        Verdict verdict = judged(law);
        if (verdict == null || sheet.find(hand, k) == null) {
            return 0L;
        }
        return verdict.weights[slotOf(hand, k)];
    }

    public int stands(int law, int hand, int k) {
        Verdict verdict = judged(law);
        if (verdict == null || sheet.find(hand, k) == null) {
            return NONE;
        }
        return verdict.states[slotOf(hand, k)];
    }

    public int falls(int law, int hand, int k) {
        Verdict verdict = judged(law);
        if (verdict == null || sheet.find(hand, k) == null) {
            return NONE;
        }
        int slot = slotOf(hand, k);
        return verdict.states[slot] == FALLS ? verdict.feller(sheet, slot) : LACKS;
    }

    public int many(int law, int what) {
        Verdict verdict = judged(law);
        if (verdict == null || what < FALLS || what > OPEN) {
            return NONE;
        }
        return verdict.howMany(what);
    }

    public int out(int law) {
        Verdict verdict = composed(law);
        return verdict == null ? NONE : verdict.outSize;
    }

    public int reads(int law, int i) {
        Verdict verdict = composed(law);
        if (verdict == null || i < 0 || i >= verdict.outSize) {
            return NONE;
        }
        return verdict.out[i];
    }

    public int lines(int what, int width) {
        return setLines(what, width) ? firstLines.size : NONE;
    }

    public int line(int from, int width, int k, int what) {
        if (!setLines(from, width) || k < 0 || k >= firstLines.size) {
            return NONE;
        }
        if (what == 0) {
            return firstLines.starts[k];
        }
        return what == 1 ? firstLines.lengths[k] : NONE;
    }

    public int changed(int law, int width) {
        Verdict verdict = composed(law);
        return verdict == null || !isWidth(width) ? NONE : unlikePages(verdict, width, 1);
    }

    public int run(int law, int width, int page) {
        Verdict verdict = composed(law);
        if (verdict == null || !isWidth(width) || page < 1 || page > MOST_PAGE) {
            return NONE;
        }
        return unlikePages(verdict, width, page);
    }

    public int costs(int law, int width) {
        Verdict verdict = composed(law);
        if (verdict == null || !isWidth(width)) {
            return NONE;
        }
        return verdict.costOfMarks(sheet) + sheet.costs[LINE_COST] * unlikePages(verdict, width, 1);
    }

    public int edit(int k) {
        findEdit();
        if (k == -1) {
            return cheapest.total;
        }
        if (k == -2) {
            return cheapest.size;
        }
        return k >= 0 && k < cheapest.size ? cheapest.steps[k] : NONE;
    }

    public int moved(int what) {
        if (what < 0 || what > 3 || sheet.galleySize > MOVED_ROOM) {
            return NONE;
        }
        if (cheapestMove.foundAt != changes) {
            findEdit();
            cheapestMove.search(sheet, cheapest.total);
            cheapestMove.foundAt = changes;
        }
        switch (what) {
            case 1:
                return cheapestMove.first;
            case 2:
                return cheapestMove.second;
            case 3:
                return cheapestMove.third;
            default:
                return cheapestMove.total;
        }
    }

    public int fewest() {
        if (sheet.allTold() > FEWEST_ROOM) {
            return NONE;
        }
        if (fewestAt != changes) {
            fewestFound = composer.fewestSet(sheet);
            fewestAt = changes;
        }
        return fewestFound;
    }

    public int unseen(int one, int other, int kind, int part) {
        if (!sheet.hasHand(one) || !sheet.hasHand(other) || one == other) {
            return NONE;
        }
        if (kind < 0 || kind > KINDS || part < 0 || part > 1) {
            return NONE;
        }
        int alone = sheet.toldBeside(one, other, kind, false);
        int otherAlone = sheet.toldBeside(other, one, kind, false);
        int both = sheet.toldBeside(one, other, kind, true);
        return partOf(alone * otherAlone, both, part);
    }

    public int rate(int hand, int part) {
        if (!sheet.hasHand(hand) || part < 0 || part > 1) {
            return NONE;
        }
        return partOf(sheet.toldByOthers(hand, true), sheet.toldByOthers(hand, false), part);
    }

    public int count(int what) {
        switch (what) {
            case 0:
                return sheet.galleySize;
            case 1:
                return sheet.wishSize;
            case 2:
                return sheet.hands;
            case 3:
                return sheet.allTold();
            case 4:
                return lawCount;
            case 5:
                return tape.size;
            default:
                return what > 5 && sheet.hasHand(what - 6) ? sheet.told[what - 6] : NONE;
        }
    }

    public int image(int k) {
        if (k < 0 || k >= IMAGE_ROOM) {
            return NONE;
        }
        Sheet kept = images[k];
        if (kept == null) {
            kept = new Sheet();
            images[k] = kept;
        }
        kept.copyFrom(sheet);
        return sheet.galleySize;
    }

    public int back(int k) {
        if (k < 0 || k >= IMAGE_ROOM) {
            return NONE;
        }
        Sheet kept = images[k];
        if (kept == null) {
            return NONE;
        }
        sheet.copyFrom(kept);
        changes++;
        return sheet.galleySize;
    }

    /** The verdict by a LAW on the sheet as it is; null without the LAW. */
    private Verdict judged(int law) {
        if (law < 0 || law >= lawCount) {
            return null;
        }
        Verdict verdict = verdicts[law];
        Law rule = laws[law];
        if (verdict == null || rule == null) {
            return null;
        }
        if (verdict.settledAt != changes) {
            verdict.settle(sheet, rule);
            verdict.settledAt = changes;
        }
        return verdict;
    }

    /** The verdict by a LAW together with its OUT; null without the LAW. */
    private Verdict composed(int law) {
        Verdict verdict = judged(law);
        if (verdict != null && verdict.composedAt != changes) {
            verdict.compose(sheet, composer);
            verdict.composedAt = changes;
        }
        return verdict;
    }

    /** Sets the text of that number in LINES; false without it or the width. */
    private boolean setLines(int what, int width) {
        if (!isWidth(width)) {
            return false;
        }
        if (what == 0) {
            firstLines.layOut(sheet.galley, sheet.galleySize, width);
            return true;
        }
        if (what == 1) {
            firstLines.layOut(sheet.wish, sheet.wishSize, width);
            return true;
        }
        Verdict verdict = what < 2 ? null : composed(what - 2);
        if (verdict == null) {
            return false;
        }
        firstLines.layOut(verdict.out, verdict.outSize, width);
        return true;
    }

    /** How many pages of so many LINES have one that CHANGED. */
    private int unlikePages(Verdict verdict, int width, int page) {
        firstLines.layOut(sheet.galley, sheet.galleySize, width);
        secondLines.layOut(verdict.out, verdict.outSize, width);
        return firstLines.pagesUnlike(secondLines, page);
    }

    private void findEdit() {
        if (cheapest.foundAt != changes) {
            cheapest.search(sheet);
            cheapest.foundAt = changes;
        }
    }

    private static boolean isWidth(int width) {
        return width >= LEAST_WIDTH && width <= MOST_WIDTH;
    }

    private static int slotOf(int hand, int k) {
        return hand * MARK_ROOM + k;
    }

    private static boolean isByte(int sign) {
        return sign >= BLANK && sign <= LAST_BYTE;
    }

    private static boolean isSmall(int sign) {
        return sign >= 'a' && sign <= 'z';
    }

    private static boolean isCapital(int sign) {
        return sign >= 'A' && sign <= 'Z';
    }

    private static boolean isDigit(int sign) {
        return sign >= '0' && sign <= '9';
    }

    /** The letter in its other case; NONE for what is no letter. */
    private static int twinOf(int sign) {
        if (isSmall(sign)) {
            return sign - 32;
        }
        return isCapital(sign) ? sign + 32 : NONE;
    }

    /** A part of above / below in lowest terms. */
    private static int partOf(int above, int below, int part) {
        if (below == 0) {
            return LACKS;
        }
        int common = below;
        int rest = above;
        for (int i = 0; i < 64 && rest != 0; i++) {
            int next = common % rest;
            common = rest;
            rest = next;
        }
        if (common == 0) {
            return LACKS;
        }
        return part == 0 ? above / common : below / common;
    }

    /** The TAPE, with a place up to which it is read and the first FAULT seen there. */
    private static final class Tape {
        final int[] bytes = new int[TAPE_ROOM];
        int size;
        int place;
        /** 1 + 8 * place + kind; 0 while there is none. */
        int fault;

        void append(int number) {
            for (int shift = 24; shift >= 0; shift -= 8) {
                if (size >= 0 && size < TAPE_ROOM) {
                    bytes[size] = (number >>> shift) & 255;
                    size++;
                }
            }
        }

        /** The place of what can't stand in a GALLEY or a WISH. */
        int firstWrong() {
            for (int i = 0; i < size; i++) {
                if (i >= TEXT_ROOM || !isByte(bytes[i])) {
                    return i;
                }
            }
            return NONE;
        }

        /** To the first byte that is no blank. */
        void rewind() {
            fault = 0;
            place = 0;
            pass(0);
        }

        /** Reading goes along the text, so the first one told is the one that counts. */
        void fail(int where, int kind) {
            if (fault == 0) {
                fault = 1 + 8 * where + kind;
            }
        }

        /** The byte at the place, NONE at the end. */
        int peek() {
            return place >= 0 && place < size ? bytes[place] : NONE;
        }

        /** Goes behind so many bytes and the blanks that follow: but within a TEXT no blank is at the place. */
        void pass(int count) {
            place += count;
            for (int i = 0; i < TAPE_ROOM && place >= 0 && place < size && bytes[place] == BLANK; i++) {
                place++;
            }
        }

        /** Which of the two signs it went behind; NONE if neither is there, or behind a FAULT. */
        int takeSign(int one, int other) {
            int sign = peek();
            if (fault != 0 || (sign != one && sign != other)) {
                return NONE;
            }
            pass(1);
            return sign;
        }

        /**
         * Goes behind the next word, as far as small letters go on: its number in a list of words, one blank
         * between; NONE if it is not there, or behind a FAULT.
         */
        int takeWord(String list) {
            int length = 0;
            for (int i = place; i >= 0 && i < size && isSmall(bytes[i]); i++) {
                length++;
            }
            if (fault != 0 || length == 0) {
                return NONE;
            }
            int number = 0;
            int same = 0;
            for (int i = 0; i <= list.length(); i++) {
                int sign = i < list.length() ? list.charAt(i) : BLANK;
                if (sign == BLANK) {
                    if (same == length) {
                        pass(length);
                        return number;
                    }
                    number++;
                    same = 0;
                } else if (same != NONE) {
                    same = same < length && bytes[place + same] == sign ? same + 1 : NONE;
                }
            }
            return NONE;
        }

        /** How many digits stand at the place, as far as they go on. */
        int digits() {
            int found = 0;
            for (int i = place; i >= 0 && i < size && isDigit(bytes[i]); i++) {
                found++;
            }
            return found;
        }

        int valueOf(int digits) {
            int value = 0;
            for (int i = place; i >= 0 && i < size && i < place + digits; i++) {
                value = value * 10 + bytes[i] - '0';
            }
            return value;
        }
    }

    /** A MARK; it never changes, so that images may hold the same ones. */
    private static final class Mark {
        final int kind;
        final int first;
        final int second;
        final int third;
        /** LONG of it. */
        final int length;
        /** The TEXT of an ins; null for others. */
        final int[] text;
        /** The ends of a move. */
        final int low;
        final int high;

        Mark(int kind, int first, int second, int third, int[] text) {
            this.kind = kind;
            this.first = first;
            this.second = second;
            this.third = third;
            this.text = text;
            length = text == null ? second - first : text.length;
            low = third == NONE ? first : Math.min(first, third);
            high = third == NONE ? second : Math.max(second, third);
        }

        boolean isAlike(Mark other) {
            return kind == other.kind && first == other.first && second == other.second && third == other.third
                && sameText(other);
        }

        private boolean sameText(Mark other) {
            if (text == null || other.text == null) {
                return text == null && other.text == null;
            }
            if (text.length != other.text.length) {
                return false;
            }
            for (int i = 0; i < text.length && i < other.text.length; i++) {
                if (text[i] != other.text[i]) {
                    return false;
                }
            }
            return true;
        }

        /** The kind of their CLASH, 0 for none. */
        int meets(Mark other) {
            return kind <= other.kind ? meetsLater(other) : other.meetsLater(this);
        }

        /** As meets, the other one of the same kind or one behind it. */
        private int meetsLater(Mark other) {
            if (kind == INS) {
                return insMeets(other);
            }
            if (kind == MOVE && other.kind == MOVE) {
                return movesFit(other) ? 0 : 6;
            }
            if (kind == STET || !sharesByte(other)) {
                return 0;
            }
            if (other.kind == STET) {
                return 5;
            }
            if (kind == DEL && (other.kind == CAP || other.kind == LOW)) {
                return 1;
            }
            return kind == CAP && other.kind == LOW ? 2 : 0;
        }

        private int insMeets(Mark other) {
            if (other.kind == INS) {
                return first == other.first && !sameText(other) ? 3 : 0;
            }
            if (first <= other.first || first >= other.second) {
                return 0;
            }
            if (other.kind == DEL) {
                return 4;
            }
            return other.kind == STET ? 5 : 0;
        }

        private boolean sharesByte(Mark other) {
            return first < other.second && other.first < second;
        }

        private boolean movesFit(Mark other) {
            if (first == other.first && second == other.second && third == other.third) {
                return true;
            }
            if (third != other.third && (high <= other.low || other.high <= low)) {
                return true;
            }
            return liesIn(other.first, other.second) || liesIn(other.overFrom(), other.overTo())
                || other.liesIn(first, second) || other.liesIn(overFrom(), overTo());
        }

        private boolean liesIn(int from, int to) {
            return low >= from && high <= to && third > from && third < to;
        }

        /** The PLACES of the BYTES that a move goes over. */
        private int overFrom() {
            return third > second ? second : third;
        }

        private int overTo() {
            return third > second ? third : first;
        }
    }

    /** All that an IMAGE keeps. */
    private static final class Sheet {
        final int[] galley = new int[TEXT_ROOM];
        int galleySize;
        final int[] wish = new int[TEXT_ROOM];
        int wishSize;
        final int[] ranks = new int[HAND_ROOM];
        /** How many MARKS each HAND has. */
        final int[] told = new int[HAND_ROOM];
        int hands;
        /** 16 slots for each HAND, null behind its last MARK. */
        final Mark[] marks = new Mark[SLOTS];
        final int[] costs = new int[LINE_COST + 1];
        /** AGREE of each MARK, and the slots with which it has a CLASH as bits: both follow from the MARKS. */
        final int[] agrees = new int[SLOTS];
        final long[] clashing = new long[SLOTS];

        void copyFrom(Sheet other) {
            System.arraycopy(other.galley, 0, galley, 0, TEXT_ROOM);
            System.arraycopy(other.wish, 0, wish, 0, TEXT_ROOM);
            System.arraycopy(other.ranks, 0, ranks, 0, HAND_ROOM);
            System.arraycopy(other.told, 0, told, 0, HAND_ROOM);
            System.arraycopy(other.marks, 0, marks, 0, SLOTS);
            System.arraycopy(other.costs, 0, costs, 0, LINE_COST + 1);
            System.arraycopy(other.agrees, 0, agrees, 0, SLOTS);
            System.arraycopy(other.clashing, 0, clashing, 0, SLOTS);
            galleySize = other.galleySize;
            wishSize = other.wishSize;
            hands = other.hands;
        }

        void takeGalley(int[] bytes, int size) {
            galleySize = Math.min(size, TEXT_ROOM);
            for (int i = 0; i < galleySize && i < bytes.length; i++) {
                galley[i] = bytes[i];
            }
            for (int i = 0; i < SLOTS; i++) {
                marks[i] = null;
            }
            Arrays.fill(told, 0);
        }

        void takeWish(int[] bytes, int size) {
            wishSize = Math.min(size, TEXT_ROOM);
            for (int i = 0; i < wishSize && i < bytes.length; i++) {
                wish[i] = bytes[i];
            }
        }

        boolean hasHand(int hand) {
            return hand >= 0 && hand < hands && hand < HAND_ROOM;
        }

        void addMarks(int hand, Mark[] more, int size) {
            if (!hasHand(hand)) {
                return;
            }
            for (int i = 0; i < size && i < more.length; i++) {
                if (told[hand] >= 0 && told[hand] < MARK_ROOM) {
                    marks[slotOf(hand, told[hand])] = more[i];
                    told[hand]++;
                }
            }
            for (int slot = 0; slot < SLOTS; slot++) {
                Mark mark = marks[slot];
                agrees[slot] = mark == null ? 0 : agreeing(mark);
                clashing[slot] = mark == null ? 0L : clashesOf(mark);
            }
        }

        /** A MARK has no CLASH with itself, so that its own slot need not be left out. */
        private long clashesOf(Mark mark) {
            long bits = 0L;
            for (int slot = 0; slot < SLOTS; slot++) {
                Mark other = marks[slot];
                if (other != null && mark.meets(other) != 0) {
                    bits |= 1L << slot;
                }
            }
            return bits;
        }

        /** A MARK of a HAND; null without it. */
        Mark find(int hand, int k) {
            if (!hasHand(hand) || k < 0 || k >= MARK_ROOM) {
                return null;
            }
            return marks[slotOf(hand, k)];
        }

        int allTold() {
            int all = 0;
            for (int hand = 0; hand < HAND_ROOM; hand++) {
                all += told[hand];
            }
            return all;
        }

        /** Whether one of the first so many MARKS of a HAND is ALIKE this one. */
        boolean tells(int hand, int upTo, Mark mark) {
            for (int k = 0; k < upTo; k++) {
                Mark other = find(hand, k);
                if (other != null && other.isAlike(mark)) {
                    return true;
                }
            }
            return false;
        }

        private int agreeing(Mark mark) {
            int found = 0;
            for (int hand = 0; hand < hands; hand++) {
                if (tells(hand, MARK_ROOM, mark)) {
                    found++;
                }
            }
            return found;
        }

        /** How many MARKS of a kind (6: all) one HAND has that the other one has, too, or has not. */
        int toldBeside(int hand, int other, int kind, boolean shared) {
            int found = 0;
            for (int k = 0; k < MARK_ROOM; k++) {
                Mark mark = find(hand, k);
                if (mark == null || (kind != KINDS && mark.kind != kind) || tells(hand, k, mark)) {
                    continue;
                }
                if (tells(other, MARK_ROOM, mark) == shared) {
                    found++;
                }
            }
            return found;
        }

        /** How many MARKS the HANDS but this one told, or how many of these it told, too. */
        int toldByOthers(int hand, boolean shared) {
            int found = 0;
            for (int slot = 0; slot < SLOTS; slot++) {
                Mark mark = marks[slot];
                int teller = slot / MARK_ROOM;
                if (mark == null || teller == hand || toldEarlier(slot, hand, mark)) {
                    continue;
                }
                if (!shared || tells(hand, MARK_ROOM, mark)) {
                    found++;
                }
            }
            return found;
        }

        private boolean toldEarlier(int slot, int without, Mark mark) {
            for (int i = 0; i < slot && i < SLOTS; i++) {
                Mark other = marks[i];
                if (other != null && i / MARK_ROOM != without && other.isAlike(mark)) {
                    return true;
                }
            }
            return false;
        }
    }

    /** Reads the language of MARKS; what it read is taken only when the whole text is without a FAULT. */
    private static final class MarkReader {
        private static final int SWAP = 6;
        private static final int CLOSE = 7;
        private static final int MOST_DIGITS = 3;

        final Mark[] read = new Mark[MARK_ROOM];
        int size;
        private final int[] text = new int[PUT_ROOM];
        /** Where the last NUMBER began: what is wrong with it may show only beside others. */
        private int numberAt;

        void readMarks(Tape tape, Sheet sheet, int have) {
            tape.rewind();
            size = 0;
            for (int i = 0; i <= MARK_ROOM; i++) {
                readClause(tape, sheet, have);
                if (tape.fault != 0 || tape.peek() == NONE) {
                    return;
                }
                if (tape.takeSign(';', ';') == NONE) {
                    tape.fail(tape.place, FAULT_SIGN);
                }
            }
        }

        private void readClause(Tape tape, Sheet sheet, int have) {
            int start = tape.place;
            int verb = tape.takeWord("ins del cap low move stet swap close");
            if (verb == NONE) {
                tape.fail(start, FAULT_SIGN);
                return;
            }
            if (size < 0 || size >= MARK_ROOM || have + size >= MARK_ROOM) {
                tape.fail(start, FAULT_ROOM);
                return;
            }
            read[size] = readMark(tape, sheet, verb);
            size++;
        }

        /** What a verb tells; null behind a FAULT. */
        private Mark readMark(Tape tape, Sheet sheet, int verb) {
            if (verb == INS) {
                return readIns(tape, sheet.galleySize);
            }
            if (verb == CLOSE) {
                return readClose(tape, sheet);
            }
            int most = sheet.galleySize;
            int first = readNumber(tape, 0, most);
            int second = readNumber(tape, first + 1, most);
            if (verb != MOVE && verb != SWAP) {
                return tape.fault != 0 ? null : new Mark(verb, first, second, NONE, null);
            }
            int third = readNumber(tape, verb == SWAP ? second + 1 : 0, most);
            if (third >= first && third <= second) {
                tape.fail(numberAt, FAULT_NUMBER);
            }
            return tape.fault != 0 ? null : new Mark(MOVE, first, second, third, null);
        }

        private Mark readClose(Tape tape, Sheet sheet) {
            int place = readNumber(tape, 0, sheet.galleySize - 1);
            if (tape.fault != 0 || place < 0 || place >= sheet.galleySize) {
                return null;
            }
            if (sheet.galley[place] != BLANK) {
                tape.fail(numberAt, FAULT_NUMBER);
                return null;
            }
            return new Mark(DEL, place, place + 1, NONE, null);
        }

        private Mark readIns(Tape tape, int most) {
            int place = readNumber(tape, 0, most);
            if (tape.fault != 0) {
                return null;
            }
            if (tape.peek() != QUOTE) {
                tape.fail(tape.place, FAULT_SIGN);
                return null;
            }
            tape.place++;
            int length = readText(tape);
            if (tape.fault != 0 || length < 1) {
                return null;
            }
            return new Mark(INS, place, NONE, NONE, Arrays.copyOf(text, length));
        }

        /** A NUMBER from least to most; behind a FAULT nothing more is read. */
        private int readNumber(Tape tape, int least, int most) {
            if (tape.fault != 0) {
                return NONE;
            }
            numberAt = tape.place;
            int digits = tape.digits();
            if (digits == 0) {
                tape.fail(numberAt, FAULT_SIGN);
                return NONE;
            }
            if (digits > MOST_DIGITS) {
                tape.fail(numberAt, FAULT_NUMBER);
                return NONE;
            }
            int value = tape.valueOf(digits);
            if (value < least || value > most) {
                tape.fail(numberAt, FAULT_NUMBER);
                return NONE;
            }
            tape.pass(digits);
            return value;
        }

        /** The rest of a TEXT behind its first quote: how many BYTES. */
        private int readText(Tape tape) {
            for (int length = 0; length <= PUT_ROOM; length++) {
                int sign = tape.peek();
                if (sign == QUOTE && length > 0) {
                    tape.pass(1);
                    return length;
                }
                if (sign == NONE) {
                    tape.fail(tape.place, FAULT_SIGN);
                    return 0;
                }
                if (sign == QUOTE || !isByte(sign) || length >= PUT_ROOM) {
                    tape.fail(tape.place, FAULT_PUT);
                    return 0;
                }
                text[length] = sign;
                tape.place++;
            }
            return 0;
        }
    }

    /** A LAW as a row of codes, values ahead of the sign that joins them. */
    private static final class Law {
        static final int CLAUSES = 12;
        /** Codes below are NUMBERS, from here on WORDS of a MARK. */
        static final int WORD = 100000;
        static final int WORDS = 7;
        /** From here on signs and words that join values. */
        static final int SIGN = 200000;
        static final int ADD = 200000;
        static final int SUBTRACT = 200001;
        static final int MULTIPLY = 200002;
        static final int DIVIDE = 200003;
        static final int LESS = 200004;
        static final int LESS_OR_SAME = 200005;
        static final int SAME = 200006;
        static final int MORE_OR_SAME = 200007;
        static final int MORE = 200008;
        static final int AND = 200009;
        static final int OR = 200010;
        static final int NOT = 200011;
        /** Ten brackets deep, two values wait in each, and few more in the innermost SUM. */
        private static final int STACK = 64;

        /** Each code comes from a byte of its own, so that no text has more. */
        private final int[] code = new int[TAPE_ROOM];
        private int codeSize;
        private final int[] sumEnds = new int[CLAUSES];
        private final int[] clauseEnds = new int[CLAUSES];
        private int clauses;
        private final long[] words = new long[WORDS];
        private final long[] stack = new long[STACK];

        void clear() {
            codeSize = 0;
            clauses = 0;
        }

        void add(int item) {
            if (codeSize >= 0 && codeSize < TAPE_ROOM) {
                code[codeSize] = item;
                codeSize++;
            }
        }

        void endSum(int clause) {
            if (clause >= 0 && clause < CLAUSES) {
                sumEnds[clause] = codeSize;
            }
        }

        void endClause(int clause) {
            if (clause >= 0 && clause < CLAUSES) {
                clauseEnds[clause] = codeSize;
                clauses = clause + 1;
            }
        }

        /** WEIGHT of the MARK in a slot. */
        long weigh(Sheet sheet, int slot) {
            if (!learn(sheet, slot)) {
                return 0L;
            }
            int start = 0;
            for (int i = 0; i < clauses && i < CLAUSES; i++) {
                boolean always = sumEnds[i] == clauseEnds[i];
                if (always || valueOf(sumEnds[i], clauseEnds[i]) != 0L) {
                    return valueOf(start, sumEnds[i]);
                }
                start = clauseEnds[i];
            }
            return 0L;
        }

        /** Puts what the WORDS of a MARK are into their row; false without the MARK. */
        private boolean learn(Sheet sheet, int slot) {
            if (slot < 0 || slot >= SLOTS) {
                return false;
            }
            Mark mark = sheet.marks[slot];
            if (mark == null) {
                return false;
            }
            int hand = slot / MARK_ROOM;
            words[0] = hand < HAND_ROOM ? sheet.ranks[hand] : 0;
            words[1] = hand;
            words[2] = slot % MARK_ROOM;
            words[3] = mark.kind;
            words[4] = mark.length;
            words[5] = mark.first;
            words[6] = sheet.agrees[slot];
            return true;
        }

        private long valueOf(int from, int to) {
            int top = 0;
            for (int i = from; i >= 0 && i < to && i < TAPE_ROOM; i++) {
                int item = code[i];
                if (item < SIGN) {
                    if (top >= STACK) {
                        return 0L;
                    }
                    stack[top] = item < WORD ? item : wordValue(item - WORD);
                    top++;
                } else if (item == NOT) {
                    if (top < 1) {
                        return 0L;
                    }
                    stack[top - 1] = 1L - stack[top - 1];
                } else {
                    if (top < 2) {
                        return 0L;
                    }
                    top--;
                    stack[top - 1] = join(item, stack[top - 1], stack[top]);
                }
            }
            return top < 1 ? 0L : stack[0];
        }

        private long wordValue(int word) {
            return word >= 0 && word < WORDS ? words[word] : 0L;
        }

        /** Two values by a sign; a FACT is 1 or 0. */
        private static long join(int sign, long left, long right) {
            switch (sign) {
                case ADD:
                    return left + right;
                case SUBTRACT:
                    return left - right;
                case MULTIPLY:
                    return left * right;
                case DIVIDE:
                    return right == 0L ? 0L : left / right;
                case LESS:
                    return left < right ? 1L : 0L;
                case LESS_OR_SAME:
                    return left <= right ? 1L : 0L;
                case SAME:
                    return left == right ? 1L : 0L;
                case MORE_OR_SAME:
                    return left >= right ? 1L : 0L;
                case MORE:
                    return left > right ? 1L : 0L;
                case AND:
                    return left & right;
                default:
                    return left | right;
            }
        }
    }

    /** Reads the language of LAWS into a draft, which becomes a LAW only when the text is without a FAULT. */
    private static final class LawReader {
        private static final int DEEPEST = 10;
        private static final int MOST_COUNTED = 60;
        private static final int MOST_DIGITS = 5;

        private final Tape tape;
        private Law draft = new Law();
        /** VALUES and FACTS made of a SIGN, of the whole text. */
        private int counted;

        LawReader(Tape tape) {
            this.tape = tape;
        }

        Law handOver() {
            Law ready = draft;
            draft = new Law();
            return ready;
        }

        void readLaw() {
            tape.rewind();
            draft.clear();
            counted = 0;
            for (int clause = 0; clause <= Law.CLAUSES && tape.fault == 0; clause++) {
                int start = tape.place;
                if (tape.takeWord("stands") == NONE) {
                    tape.fail(start, FAULT_SIGN);
                }
                if (clause >= Law.CLAUSES) {
                    tape.fail(start, FAULT_ROOM);
                }
                readSum();
                draft.endSum(clause);
                if (tape.takeWord("if") != NONE) {
                    readTest(0);
                }
                draft.endClause(clause);
                if (tape.peek() == NONE) {
                    return;
                }
                if (tape.takeSign(';', ';') == NONE) {
                    tape.fail(tape.place, FAULT_SIGN);
                }
            }
        }

        /** A TEST with its PARTS: each PART is whole before it is joined to those ahead. */
        private void readTest(int depth) {
            for (int part = 0; part < TAPE_ROOM; part++) {
                readFact(depth);
                for (int i = 0; i < TAPE_ROOM && tape.takeWord("and") != NONE; i++) {
                    readFact(depth);
                    draft.add(Law.AND);
                }
                if (part > 0) {
                    draft.add(Law.OR);
                }
                if (tape.takeWord("or") == NONE) {
                    return;
                }
            }
        }

        private void readFact(int depth) {
            int start = tape.place;
            boolean opens = tape.takeSign('[', '[') != NONE;
            boolean denies = !opens && tape.takeWord("not") != NONE;
            if ((opens || denies) && depth >= DEEPEST) {
                tape.fail(start, FAULT_DEEP);
            } else if (opens) {
                readTest(depth + 1);
                if (tape.takeSign(']', ']') == NONE) {
                    tape.fail(tape.place, FAULT_SIGN);
                }
            } else if (denies) {
                readFact(depth + 1);
                draft.add(Law.NOT);
            } else {
                readSum();
                int sign = readSign();
                readSum();
                draft.add(sign);
            }
        }

        private int readSign() {
            int start = tape.place;
            int sign = tape.peek();
            if (sign != '<' && sign != '=' && sign != '>') {
                tape.fail(start, FAULT_SIGN);
                return NONE;
            }
            countAt(start);
            tape.place++;
            boolean orSame = sign != '=' && tape.peek() == '=';
            tape.pass(orSame ? 1 : 0);
            if (sign == '=') {
                return Law.SAME;
            }
            if (sign == '<') {
                return orSame ? Law.LESS_OR_SAME : Law.LESS;
            }
            return orSame ? Law.MORE_OR_SAME : Law.MORE;
        }

        /** A SUM with its TERMS: each TERM is whole before it is joined to those ahead. */
        private void readSum() {
            int joint = NONE;
            for (int term = 0; term < TAPE_ROOM && tape.fault == 0; term++) {
                readValue();
                int sign = tape.takeSign('*', '/');
                for (int i = 0; i < TAPE_ROOM && sign != NONE; i++) {
                    readValue();
                    draft.add(sign == '*' ? Law.MULTIPLY : Law.DIVIDE);
                    sign = tape.takeSign('*', '/');
                }
                if (joint != NONE) {
                    draft.add(joint);
                }
                sign = tape.takeSign('+', '-');
                if (sign == NONE) {
                    return;
                }
                joint = sign == '+' ? Law.ADD : Law.SUBTRACT;
            }
        }

        private void readValue() {
            int start = tape.place;
            int digits = tape.digits();
            if (digits > MOST_DIGITS) {
                tape.fail(start, FAULT_NUMBER);
                return;
            }
            if (digits > 0) {
                draft.add(tape.valueOf(digits));
                tape.pass(digits);
                countAt(start);
                return;
            }
            int word = tape.takeWord("rank hand number kind long place agree");
            if (word == NONE) {
                tape.fail(start, FAULT_SIGN);
                return;
            }
            draft.add(Law.WORD + word);
            countAt(start);
        }

        private void countAt(int start) {
            counted++;
            if (counted > MOST_COUNTED) {
                tape.fail(start, FAULT_MANY);
            }
        }
    }

    /** What a LAW makes of the MARKS, and OUT by it. */
    private static final class Verdict {
        private static final int WAITS = 3;

        final long[] weights = new long[SLOTS];
        /** FALLS, STANDS or OPEN; NONE where no MARK is. */
        final int[] states = new int[SLOTS];
        final int[] out = new int[OUT_ROOM];
        int outSize;
        int settledAt = NONE;
        int composedAt = NONE;
        /** The slots of the MARKS that stand, as bits. */
        private long standingSet;
        private final Mark[] standing = new Mark[SLOTS];

        void settle(Sheet sheet, Law law) {
            for (int slot = 0; slot < SLOTS; slot++) {
                weights[slot] = law.weigh(sheet, slot);
                states[slot] = sheet.marks[slot] == null ? NONE : WAITS;
            }
            standingSet = 0L;
            for (int round = 0; round < SLOTS; round++) {
                int heaviest = heaviestWaiting();
                if (heaviest < 0) {
                    return;
                }
                decide(sheet, weights[heaviest]);
            }
        }

        private int heaviestWaiting() {
            int heaviest = NONE;
            for (int slot = 0; slot < SLOTS; slot++) {
                if (states[slot] == WAITS && (heaviest < 0 || weights[slot] > weights[heaviest])) {
                    heaviest = slot;
                }
            }
            return heaviest;
        }

        /** All MARKS of one WEIGHT: none of them stands before it is known which of them are left. */
        private void decide(Sheet sheet, long weight) {
            long left = 0L;
            for (int slot = 0; slot < SLOTS; slot++) {
                if (states[slot] != WAITS || weights[slot] != weight) {
                    continue;
                }
                if ((sheet.clashing[slot] & standingSet) != 0L) {
                    states[slot] = FALLS;
                } else {
                    left |= 1L << slot;
                }
            }
            for (int slot = 0; slot < SLOTS; slot++) {
                if ((left >>> slot & 1L) == 0L) {
                    continue;
                }
                if ((sheet.clashing[slot] & left) != 0L) {
                    states[slot] = OPEN;
                } else {
                    states[slot] = STANDS;
                    standingSet |= 1L << slot;
                }
            }
        }

        /** The first slot whose MARK stands and has a CLASH with that of the slot. */
        int feller(Sheet sheet, int slot) {
            if (slot < 0 || slot >= SLOTS) {
                return NONE;
            }
            long bits = sheet.clashing[slot] & standingSet;
            for (int other = 0; other < SLOTS; other++) {
                if ((bits >>> other & 1L) != 0L) {
                    return other;
                }
            }
            return NONE;
        }

        int howMany(int state) {
            int found = 0;
            for (int slot = 0; slot < SLOTS; slot++) {
                if (states[slot] == state) {
                    found++;
                }
            }
            return found;
        }

        void compose(Sheet sheet, Composer composer) {
            int size = gather(sheet);
            composer.compose(sheet, standing, size);
            outSize = composer.size;
            System.arraycopy(composer.text, 0, out, 0, OUT_ROOM);
        }

        /** Puts the MARKS that stand into their row, HAND by HAND. */
        private int gather(Sheet sheet) {
            int size = 0;
            for (int slot = 0; slot < SLOTS; slot++) {
                if (states[slot] == STANDS && size < SLOTS) {
                    standing[size] = sheet.marks[slot];
                    size++;
                }
            }
            return size;
        }

        int costOfMarks(Sheet sheet) {
            int size = gather(sheet);
            int sum = 0;
            for (int i = 0; i < size; i++) {
                Mark mark = standing[i];
                if (mark != null && mark.kind >= 0 && mark.kind < KINDS && !hasEarlier(i, mark)) {
                    sum += sheet.costs[mark.kind] * mark.length;
                }
            }
            return sum;
        }

        private boolean hasEarlier(int upTo, Mark mark) {
            for (int i = 0; i < upTo && i < SLOTS; i++) {
                Mark other = standing[i];
                if (other != null && other.isAlike(mark)) {
                    return true;
                }
            }
            return false;
        }
    }

    /**
     * Makes the TEXT by MARKS. PLACES and BYTES hang in one chain, PLACE p as 2p and BYTE p as 2p + 1, so
     * that a move takes its PLACES along and an ins finds the PLACE where it went.
     */
    private static final class Composer {
        private static final int CHAIN = 2 * TEXT_ROOM + 1;

        final int[] text = new int[OUT_ROOM];
        int size;
        private final int[] next = new int[CHAIN];
        private final int[] before = new int[CHAIN];
        /** The kind of the MARK that touches a BYTE. */
        private final int[] touched = new int[TEXT_ROOM];
        private final Mark[] putIn = new Mark[TEXT_ROOM + 1];
        /** 1 for each move that is done. */
        private final int[] done = new int[SLOTS];
        private final Mark[] all = new Mark[FEWEST_ROOM];
        private final int[] slots = new int[FEWEST_ROOM];
        private final Mark[] chosen = new Mark[FEWEST_ROOM];
        private final int[] clashing = new int[FEWEST_ROOM];

        /** The TEXT by the first so many MARKS of a row, which have no CLASHES. */
        void compose(Sheet sheet, Mark[] marks, int count) {
            hang(sheet.galleySize);
            int most = Math.min(count, Math.min(marks.length, SLOTS));
            doMoves(marks, most);
            for (int i = 0; i < most; i++) {
                Mark mark = marks[i];
                if (mark != null) {
                    note(mark);
                }
            }
            size = 0;
            int item = 0;
            for (int i = 0; i < CHAIN && item >= 0 && item < CHAIN; i++) {
                if (item % 2 == 0) {
                    write(putIn[item / 2]);
                } else {
                    writeByte(sheet.galley[item / 2], touched[item / 2]);
                }
                item = next[item];
            }
        }

        private void hang(int bytes) {
            int last = 2 * bytes;
            for (int i = 0; i <= last && i < CHAIN; i++) {
                next[i] = i < last ? i + 1 : NONE;
                before[i] = i - 1;
            }
            for (int i = 0; i <= bytes && i <= TEXT_ROOM; i++) {
                putIn[i] = null;
            }
            for (int i = 0; i < bytes && i < TEXT_ROOM; i++) {
                touched[i] = NONE;
            }
        }

        /** Moves whose ends are farthest apart come first, so that those within them find their PLACES. */
        private void doMoves(Mark[] marks, int count) {
            Arrays.fill(done, 0);
            for (int round = 0; round < count; round++) {
                Mark widest = widestMove(marks, count);
                if (widest == null) {
                    return;
                }
                shift(widest);
                for (int i = 0; i < count && i < SLOTS && i < marks.length; i++) {
                    Mark mark = marks[i];
                    if (mark != null && mark.isAlike(widest)) {
                        done[i] = 1;
                    }
                }
            }
        }

        private Mark widestMove(Mark[] marks, int count) {
            Mark widest = null;
            for (int i = 0; i < count && i < SLOTS && i < marks.length; i++) {
                Mark mark = marks[i];
                if (mark == null || mark.kind != MOVE || done[i] != 0) {
                    continue;
                }
                if (widest == null || mark.high - mark.low > widest.high - widest.low) {
                    widest = mark;
                }
            }
            return widest;
        }

        private void shift(Mark move) {
            int head = 2 * move.first + 1;
            int tail = 2 * move.second - 1;
            int target = 2 * move.third;
            if (head < 0 || tail < head || tail >= CHAIN || target < 0 || target >= CHAIN) {
                return;
            }
            hook(before[head], next[tail]);
            hook(tail, next[target]);
            hook(target, head);
        }

        private void hook(int left, int right) {
            if (left >= 0 && left < CHAIN) {
                next[left] = right;
            }
            if (right >= 0 && right < CHAIN) {
                before[right] = left;
            }
        }

        private void note(Mark mark) {
            if (mark.kind == INS) {
                if (mark.first >= 0 && mark.first <= TEXT_ROOM) {
                    putIn[mark.first] = mark;
                }
                return;
            }
            if (mark.kind == MOVE || mark.kind == STET) {
                return;
            }
            for (int i = mark.first; i >= 0 && i < mark.second && i < TEXT_ROOM; i++) {
                touched[i] = mark.kind;
            }
        }

        private void write(Mark mark) {
            if (mark == null || mark.text == null) {
                return;
            }
            for (int i = 0; i < mark.text.length; i++) {
                writeByte(mark.text[i], NONE);
            }
        }

        private void writeByte(int sign, int touch) {
            if (touch == DEL || size < 0 || size >= OUT_ROOM) {
                return;
            }
            boolean turns = (touch == CAP && isSmall(sign)) || (touch == LOW && isCapital(sign));
            text[size] = turns ? sign ^ BLANK : sign;
            size++;
        }

        /** FEWEST: sets with fewer MARKS come first, then lesser ones, so that the first that fits is it. */
        int fewestSet(Sheet sheet) {
            int count = gatherAll(sheet);
            int sets = 1 << count;
            for (int fill = 0; fill <= count; fill++) {
                for (int set = 0; set < sets; set++) {
                    if (Integer.bitCount(set) == fill && isFree(set, count) && makesWish(sheet, set, count)) {
                        return set;
                    }
                }
            }
            return LACKS;
        }

        /** Puts all MARKS into one row, HAND by HAND, each with its CLASHES as bits of a set. */
        private int gatherAll(Sheet sheet) {
            int count = 0;
            for (int slot = 0; slot < SLOTS; slot++) {
                Mark mark = sheet.marks[slot];
                if (mark != null && count < FEWEST_ROOM) {
                    all[count] = mark;
                    slots[count] = slot;
                    count++;
                }
            }
            for (int i = 0; i < count; i++) {
                long bits = sheet.clashing[slots[i]];
                clashing[i] = 0;
                for (int j = 0; j < count; j++) {
                    clashing[i] |= (int) (bits >>> slots[j] & 1L) << j;
                }
            }
            return count;
        }

        private boolean isFree(int set, int count) {
            for (int i = 0; i < count && i < FEWEST_ROOM; i++) {
                if ((set >> i & 1) != 0 && (clashing[i] & set) != 0) {
                    return false;
                }
            }
            return true;
        }

        private boolean makesWish(Sheet sheet, int set, int count) {
            int picked = 0;
            for (int i = 0; i < count && i < FEWEST_ROOM; i++) {
                if ((set >> i & 1) != 0 && picked < FEWEST_ROOM) {
                    chosen[picked] = all[i];
                    picked++;
                }
            }
            compose(sheet, chosen, picked);
            if (size != sheet.wishSize) {
                return false;
            }
            for (int i = 0; i < size && i < TEXT_ROOM; i++) {
                if (text[i] != sheet.wish[i]) {
                    return false;
                }
            }
            return true;
        }
    }

    /** LINES of a text for a width. */
    private static final class Lines {
        int size;
        /** Where the first BYTE of a LINE is in the text. */
        final int[] starts = new int[OUT_ROOM];
        final int[] lengths = new int[OUT_ROOM];
        /** What the LINES hold, one behind the other, one blank between words: so they can be compared. */
        private final int[] held = new int[OUT_ROOM];
        private int heldSize;
        private final int[] heldFrom = new int[OUT_ROOM];

        void layOut(int[] text, int count, int width) {
            size = 0;
            heldSize = 0;
            int most = Math.min(count, Math.min(text.length, OUT_ROOM));
            int start = NONE;
            for (int i = 0; i <= most; i++) {
                boolean inWord = i < most && text[i] != BLANK;
                if (inWord && start == NONE) {
                    start = i;
                }
                if (!inWord && start != NONE) {
                    addWord(text, start, i, width);
                    start = NONE;
                }
            }
        }

        private void addWord(int[] text, int start, int stop, int width) {
            int from = start;
            for (int i = 0; i < OUT_ROOM && stop - from > width; i++) {
                beginLine(from);
                addBytes(text, from, from + width);
                from += width;
            }
            int last = size - 1;
            if (last >= 0 && last < OUT_ROOM && lengths[last] + 1 + stop - from <= width) {
                addByte(BLANK);
            } else {
                beginLine(from);
            }
            addBytes(text, from, stop);
        }

        private void beginLine(int from) {
            if (size >= 0 && size < OUT_ROOM) {
                starts[size] = from;
                lengths[size] = 0;
                heldFrom[size] = heldSize;
                size++;
            }
        }

        private void addBytes(int[] text, int from, int to) {
            for (int i = from; i >= 0 && i < to && i < text.length; i++) {
                addByte(text[i]);
            }
        }

        private void addByte(int sign) {
            int last = size - 1;
            if (last >= 0 && last < OUT_ROOM && heldSize >= 0 && heldSize < OUT_ROOM) {
                held[heldSize] = sign;
                heldSize++;
                lengths[last]++;
            }
        }

        /** How many pages of so many LINES have one that is not alike in the two. */
        int pagesUnlike(Lines other, int page) {
            if (page < 1) {
                return 0;
            }
            int found = 0;
            int lastPage = NONE;
            int most = Math.max(size, other.size);
            for (int k = 0; k < most; k++) {
                if (k / page != lastPage && !sameLine(other, k)) {
                    found++;
                    lastPage = k / page;
                }
            }
            return found;
        }

        private boolean sameLine(Lines other, int k) {
            if (k < 0 || k >= size || k >= other.size || k >= OUT_ROOM || lengths[k] != other.lengths[k]) {
                return false;
            }
            for (int i = 0; i < lengths[k]; i++) {
                int mine = heldFrom[k] + i;
                int theirs = other.heldFrom[k] + i;
                if (mine < 0 || mine >= OUT_ROOM || theirs < 0 || theirs >= OUT_ROOM) {
                    return false;
                }
                if (held[mine] != other.held[theirs]) {
                    return false;
                }
            }
            return true;
        }
    }

    /** EDIT: found from the texts' ends, so that from the begin the least of the cheapest steps is at hand. */
    private static final class Edit {
        private static final int KEEP = 0;
        private static final int STRIKE = 1;
        private static final int PUT = 2;
        private static final int RAISE = 3;
        private static final int LOWER = 4;
        /** Steps are kept in three bits each, to keep the table small. */
        private static final int PACK = 20;
        private static final int PACKS = TEXT_ROOM / PACK;

        int foundAt = NONE;
        int total;
        int size;
        final int[] steps = new int[2 * TEXT_ROOM];
        private final long[] table = new long[TEXT_ROOM * PACKS];
        /** What it costs to make the WISH from each of its places on, from the BYTE at hand on. */
        private final int[] rest = new int[TEXT_ROOM + 1];

        void search(Sheet sheet) {
            int last = Math.min(sheet.wishSize, TEXT_ROOM);
            for (int j = 0; j <= last; j++) {
                rest[j] = (last - j) * sheet.costs[INS];
            }
            for (int i = Math.min(sheet.galleySize, TEXT_ROOM) - 1; i >= 0; i--) {
                fillRow(sheet, i, last);
            }
            total = rest[0];
            walk(sheet.galleySize, sheet.wishSize);
        }

        private void fillRow(Sheet sheet, int i, int last) {
            if (i < 0 || i >= TEXT_ROOM || last < 0 || last > TEXT_ROOM) {
                return;
            }
            int strike = sheet.costs[DEL];
            int put = sheet.costs[INS];
            int letter = sheet.galley[i];
            int twin = twinOf(letter);
            int turn = isSmall(letter) ? RAISE : LOWER;
            int turnCost = sheet.costs[isSmall(letter) ? CAP : LOW];
            int across = rest[last];
            rest[last] += strike;
            for (int j = last - 1; j >= 0; j--) {
                int best = rest[j] + strike;
                int step = STRIKE;
                if (rest[j + 1] + put < best) {
                    best = rest[j + 1] + put;
                    step = PUT;
                }
                int wished = sheet.wish[j];
                if (wished == twin && across + turnCost < best) {
                    best = across + turnCost;
                    step = turn;
                }
                if (wished == letter && across <= best) {
                    best = across;
                    step = KEEP;
                }
                across = rest[j];
                rest[j] = best;
                keep(i, j, step);
            }
        }

        private void keep(int i, int j, int step) {
            int cell = i * PACKS + j / PACK;
            if (cell >= 0 && cell < table.length) {
                int shift = 3 * (j % PACK);
                table[cell] = (table[cell] & ~(7L << shift)) | ((long) step << shift);
            }
        }

        private int kept(int i, int j) {
            int cell = i * PACKS + j / PACK;
            if (cell < 0 || cell >= table.length) {
                return STRIKE;
            }
            return (int) (table[cell] >>> (3 * (j % PACK)) & 7L);
        }

        private void walk(int galleySize, int wishSize) {
            int i = 0;
            int j = 0;
            size = 0;
            for (int k = 0; k < 2 * TEXT_ROOM && (i < galleySize || j < wishSize); k++) {
                int step = i >= galleySize ? PUT : j >= wishSize ? STRIKE : kept(i, j);
                steps[k] = step;
                size++;
                if (step != PUT) {
                    i++;
                }
                if (step != STRIKE) {
                    j++;
                }
            }
        }
    }

    /**
     * MOVED. A move makes two neighbouring passages change places, and the same text comes of moving either
     * one: so each three PLACES are tried once for the two moves.
     */
    private static final class Moved {
        private static final int ROW = TEXT_ROOM + 1;

        int foundAt = NONE;
        int total;
        int first;
        int second;
        int third;
        /** What the GALLEY from a PLACE on costs, for each place of the WISH. */
        private final int[] behind = new int[(MOVED_ROOM + 1) * ROW];
        /** What each begin of the WISH costs from the BYTES ahead, from these and the later passage, from all. */
        private final int[] ahead = new int[ROW];
        private final int[] later = new int[ROW];
        private final int[] whole = new int[ROW];

        void search(Sheet sheet, int plain) {
            total = plain;
            first = LACKS;
            second = LACKS;
            third = LACKS;
            int bytes = sheet.galleySize;
            if (bytes > MOVED_ROOM || total == 0) {
                return;
            }
            fillBehind(sheet);
            for (int j = 0; j <= sheet.wishSize && j < ROW; j++) {
                ahead[j] = j * sheet.costs[INS];
            }
            for (int a = 0; a < bytes; a++) {
                for (int b = a + 1; b < bytes; b++) {
                    System.arraycopy(ahead, 0, later, 0, ROW);
                    for (int c = b + 1; c <= bytes; c++) {
                        extend(sheet, later, c - 1);
                        tryMoves(sheet, a, b, c);
                    }
                }
                extend(sheet, ahead, a);
            }
        }

        private void fillBehind(Sheet sheet) {
            int last = Math.min(sheet.wishSize, TEXT_ROOM);
            int bytes = Math.min(sheet.galleySize, MOVED_ROOM);
            for (int j = 0; j <= last; j++) {
                behind[bytes * ROW + j] = (last - j) * sheet.costs[INS];
            }
            for (int i = bytes - 1; i >= 0; i--) {
                int letter = sheet.galley[i];
                int twin = twinOf(letter);
                int turnCost = sheet.costs[isSmall(letter) ? CAP : LOW];
                int here = i * ROW;
                int then = here + ROW;
                behind[here + last] = behind[then + last] + sheet.costs[DEL];
                for (int j = last - 1; j >= 0; j--) {
                    int best = Math.min(behind[then + j] + sheet.costs[DEL], behind[here + j + 1] + sheet.costs[INS]);
                    int wished = sheet.wish[j];
                    if (wished == letter) {
                        best = Math.min(best, behind[then + j + 1]);
                    } else if (wished == twin) {
                        best = Math.min(best, behind[then + j + 1] + turnCost);
                    }
                    behind[here + j] = best;
                }
            }
        }

        /** Takes one BYTE of the GALLEY more into a row of costs. */
        private void extend(Sheet sheet, int[] row, int i) {
            int last = Math.min(sheet.wishSize, TEXT_ROOM);
            if (i < 0 || i >= TEXT_ROOM || row.length < ROW) {
                return;
            }
            int strike = sheet.costs[DEL];
            int put = sheet.costs[INS];
            int letter = sheet.galley[i];
            int twin = twinOf(letter);
            int turnCost = sheet.costs[isSmall(letter) ? CAP : LOW];
            int across = row[0];
            row[0] += strike;
            for (int j = 1; j <= last; j++) {
                int best = Math.min(row[j] + strike, row[j - 1] + put);
                int wished = sheet.wish[j - 1];
                if (wished == letter) {
                    best = Math.min(best, across);
                } else if (wished == twin) {
                    best = Math.min(best, across + turnCost);
                }
                across = row[j];
                row[j] = best;
            }
        }

        private void tryMoves(Sheet sheet, int a, int b, int c) {
            int each = sheet.costs[MOVE];
            if (c < 0 || c > MOVED_ROOM || each * Math.min(b - a, c - b) > total) {
                return;
            }
            System.arraycopy(later, 0, whole, 0, ROW);
            for (int i = a; i < b; i++) {
                extend(sheet, whole, i);
            }
            int least = whole[0] + behind[c * ROW];
            for (int j = 1; j <= sheet.wishSize && j < ROW; j++) {
                least = Math.min(least, whole[j] + behind[c * ROW + j]);
            }
            offer(least + each * (b - a), a, b, c);
            offer(least + each * (c - b), b, c, a);
        }

        private void offer(int cost, int from, int to, int target) {
            if (cost > total || (cost == total && !comesAhead(from, to, target))) {
                return;
            }
            total = cost;
            first = from;
            second = to;
            third = target;
        }

        /** Of moves that cost the same; none is ahead of all. */
        private boolean comesAhead(int from, int to, int target) {
            if (first < 0 || from != first) {
                return first >= 0 && from < first;
            }
            return to != second ? to < second : target < third;
        }
    }
}
