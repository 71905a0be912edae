public final class WordCodes {
    public static final int BAD_ARG = -1;
    public static final int FULL = -2;
    public static final int NONE = -4;

    private static final int EMPTY_ROW = 1;
    private static final int LEAST_CODE = 2;
    private static final int GREATEST_CODE = 127;
    private static final int MAX_WORDS = 6;
    private static final int MAX_WORD_BITS = 6;
    private static final int MAX_ROW_BITS = 16;
    private static final int MAX_COUNTED_BITS = 10;
    private static final int ROW_PLACES = 17;

    // An overhang is what is left of a word after at least one bit of it,
    // so it has at most five bits and a code below this bound.
    private static final int OVERHANGS = 64;

    private final int[] codes = new int[MAX_WORDS];
    private final int[] sizes = new int[MAX_WORDS];
    private final int[] turned = new int[MAX_WORDS];
    private int count;

    private int rowCode;
    private int rowSize;

    // The three tables below are filled anew by each call that uses them.
    private final int[] ways = new int[ROW_PLACES];
    private final int[] fewestFrom = new int[ROW_PLACES];
    private final int[] sequences = new int[ROW_PLACES];

    private final int[] reading = new int[MAX_ROW_BITS];
    private final int[] reach = new int[OVERHANGS];

    public WordCodes() {
        count = 0;
        rowCode = EMPTY_ROW;
        rowSize = 0;
    }

    public int add(int code) {
        if (code < LEAST_CODE || code > GREATEST_CODE) {
            return BAD_ARG;
        }
        int number = numberOf(code);
        if (number != NONE) {
            return number;
        }
        if (count >= MAX_WORDS) {
            return FULL;
        }
        return insert(code);
    }

    public int remove(int code) {
        int number = numberOf(code);
        if (number == NONE) {
            return NONE;
        }
        for (int k = number; k < count - 1; k++) {
            codes[k] = codes[k + 1];
            sizes[k] = sizes[k + 1];
        }
        count--;
        return count;
    }

    public int reverse() {
        int kept = count;
        for (int k = 0; k < kept; k++) {
            turned[k] = turnRound(codes[k], sizes[k]);
        }
        // The turned codes have another order, so the words are numbered anew.
        count = 0;
        for (int k = 0; k < kept; k++) {
            insert(turned[k]);
        }
        return count;
    }

    public int word(int k) {
        return hasWord(k) ? codes[k] : NONE;
    }

    public int words() {
        return count;
    }

    public int bit(int bit) {
        if (bit != 0 && bit != 1) {
            return BAD_ARG;
        }
        if (rowSize >= MAX_ROW_BITS) {
            return FULL;
        }
        rowCode = 2 * rowCode + bit;
        rowSize++;
        return rowSize;
    }

    public int append(int k) {
        if (!hasWord(k)) {
            return NONE;
        }
        if (rowSize + sizes[k] > MAX_ROW_BITS) {
            return FULL;
        }
        int withoutMark = codes[k] - (1 << sizes[k]);
        rowCode = (rowCode << sizes[k]) + withoutMark;
        rowSize += sizes[k];
        return rowSize;
    }

    public int clear() {
        int before = rowSize;
        rowCode = EMPTY_ROW;
        rowSize = 0;
        return before;
    }

    public int row() {
        return rowCode;
    }

    public int readings() {
        return countReadings(rowCode, rowSize);
    }

    public int read(int n, int i) {
        int all = countReadings(rowCode, rowSize);
        if (n < 0 || n >= all) {
            return NONE;
        }
        int length = takeReading(n);
        return i >= 0 && i < length ? reading[i] : NONE;
    }

    public int fewest() {
        fewestFrom[rowSize] = 0;
        for (int at = rowSize - 1; at >= 0; at--) {
            fewestFrom[at] = fewestWordsFrom(at);
        }
        return fewestFrom[0];
    }

    public int messages(int n) {
        if (n < 0 || n > MAX_COUNTED_BITS) {
            return BAD_ARG;
        }
        return countRows(n, 1);
    }

    public int doubtful(int n) {
        if (n < 0 || n > MAX_COUNTED_BITS) {
            return BAD_ARG;
        }
        return countRows(n, 2);
    }

    public int total(int n) {
        if (n < 0 || n > MAX_ROW_BITS) {
            return BAD_ARG;
        }
        // Each sequence of words is a reading of just one row,
        // so the sequences of n bits are counted and no row is looked at.
        sequences[0] = 1;
        for (int bits = 1; bits <= n; bits++) {
            int sum = 0;
            for (int k = 0; k < count; k++) {
                if (sizes[k] <= bits) {
                    sum += sequences[bits - sizes[k]];
                }
            }
            sequences[bits] = sum;
        }
        return sequences[n];
    }

    public int isClear() {
        return leastDoubtfulBits() == NONE ? 1 : 0;
    }

    public int shortest() {
        return leastDoubtfulBits();
    }

    public int free() {
        for (int a = 0; a < count; a++) {
            for (int b = 0; b < count; b++) {
                if (isBeginning(codes[a], codes[b])) {
                    return 0;
                }
            }
        }
        return 1;
    }

    public int weight() {
        int one = 1 << MAX_WORD_BITS;
        int sum = 0;
        for (int k = 0; k < count; k++) {
            sum += one >> sizes[k];
        }
        if (sum == one) {
            return 0;
        }
        return sum < one ? -1 : 1;
    }

    private boolean hasWord(int k) {
        return k >= 0 && k < count;
    }

    private int numberOf(int code) {
        for (int k = 0; k < count; k++) {
            if (codes[k] == code) {
                return k;
            }
        }
        return NONE;
    }

    /** Wants a code that is not in the set, and a set with room for it. */
    private int insert(int code) {
        int number = count;
        for (int k = count; k > 0 && codes[k - 1] > code; k--) {
            codes[k] = codes[k - 1];
            sizes[k] = sizes[k - 1];
            number = k - 1;
        }
        codes[number] = code;
        sizes[number] = sizeOf(code);
        count++;
        return number;
    }

    private static int sizeOf(int code) {
        int size = 0;
        for (int bits = 1; bits <= MAX_WORD_BITS; bits++) {
            if (code >> bits != 0) {
                size = bits;
            }
        }
        return size;
    }

    private static int turnRound(int code, int size) {
        int result = EMPTY_ROW;
        for (int place = 0; place < size; place++) {
            result = 2 * result + ((code >> place) & 1);
        }
        return result;
    }

    private boolean standsAt(int code, int size, int at, int k) {
        int end = at + sizes[k];
        if (end > size) {
            return false;
        }
        int mark = 1 << sizes[k];
        int part = mark | ((code >> (size - end)) & (mark - 1));
        return part == codes[k];
    }

    /** Leaves in ways[at] how many readings the row has from bit at on. */
    private int countReadings(int code, int size) {
        ways[size] = 1;
        for (int at = size - 1; at >= 0; at--) {
            int sum = 0;
            for (int k = 0; k < count; k++) {
                sum += waysThrough(code, size, at, k);
            }
            ways[at] = sum;
        }
        return ways[0];
    }

    private int waysThrough(int code, int size, int at, int k) {
        return standsAt(code, size, at, k) ? ways[at + sizes[k]] : 0;
    }

    /** Wants the ways of the row, and an n below ways[0]; answers how many words the reading has. */
    private int takeReading(int n) {
        int before = n;
        int at = 0;
        int length = 0;
        for (int place = 0; place < MAX_ROW_BITS && at < rowSize; place++) {
            int chosen = 0;
            for (int k = 0; k < count; k++) {
                int through = waysThrough(rowCode, rowSize, at, k);
                if (before < through) {
                    chosen = k;
                    break;
                }
                before -= through;
            }
            reading[place] = chosen;
            at += sizes[chosen];
            length = place + 1;
        }
        return length;
    }

    private int fewestWordsFrom(int at) {
        int least = NONE;
        for (int k = 0; k < count; k++) {
            if (standsAt(rowCode, rowSize, at, k)) {
                int behind = fewestFrom[at + sizes[k]];
                if (behind != NONE && (least == NONE || behind + 1 < least)) {
                    least = behind + 1;
                }
            }
        }
        return least;
    }

    private int countRows(int size, int leastReadings) {
        int first = 1 << size;
        int found = 0;
        for (int code = first; code < 2 * first; code++) {
            if (countReadings(code, size) >= leastReadings) {
                found++;
            }
        }
        return found;
    }

    private static boolean isBeginning(int start, int code) {
        int more = sizeOf(code) - sizeOf(start);
        return more > 0 && code >> more == start;
    }

    private static int restBehind(int start, int code) {
        int mark = 1 << (sizeOf(code) - sizeOf(start));
        return mark | (code & (mark - 1));
    }

    /**
     * A shortest doubtful row has two readings with different first words, for
     * a first word that they share could be left out. So two readings are grown
     * side by side from different first words, always the one that is behind;
     * what the other has more is the overhang, and reach[overhang] is the least
     * number of bits of the longer one. They meet when a word is the overhang.
     */
    private int leastDoubtfulBits() {
        startOverhangs();
        boolean changed = true;
        // A least way passes no overhang twice, so this many rounds are enough.
        for (int round = 0; round < OVERHANGS && changed; round++) {
            changed = growOverhangs();
        }
        int least = NONE;
        for (int k = 0; k < count; k++) {
            int bits = codes[k] < OVERHANGS ? reach[codes[k]] : 0;
            if (bits != 0 && (least == NONE || bits < least)) {
                least = bits;
            }
        }
        return least;
    }

    private void startOverhangs() {
        for (int overhang = 0; overhang < OVERHANGS; overhang++) {
            reach[overhang] = 0;
        }
        for (int a = 0; a < count; a++) {
            for (int b = 0; b < count; b++) {
                if (isBeginning(codes[a], codes[b])) {
                    int overhang = restBehind(codes[a], codes[b]);
                    lowerReach(overhang, sizes[b]);
                }
            }
        }
    }

    private boolean growOverhangs() {
        boolean changed = false;
        for (int overhang = LEAST_CODE; overhang < OVERHANGS; overhang++) {
            for (int k = 0; k < count && reach[overhang] != 0; k++) {
                if (growOverhang(overhang, k)) {
                    changed = true;
                }
            }
        }
        return changed;
    }

    private boolean growOverhang(int overhang, int k) {
        if (isBeginning(codes[k], overhang)) {
            int rest = restBehind(codes[k], overhang);
            return lowerReach(rest, reach[overhang]);
        }
        if (isBeginning(overhang, codes[k])) {
            int rest = restBehind(overhang, codes[k]);
            int more = sizeOf(rest);
            return lowerReach(rest, reach[overhang] + more);
        }
        return false;
    }

    private boolean lowerReach(int overhang, int bits) {
        if (reach[overhang] != 0 && reach[overhang] <= bits) {
            return false;
        }
        reach[overhang] = bits;
        return true;
    }
}
