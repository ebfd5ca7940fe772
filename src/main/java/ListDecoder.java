public final class ListDecoder {
    public static final int OK = 0;
    public static final int NONE = -1;
    public static final int BAD_POSITION = -2;
    public static final int BAD_SYMBOL = -3;
    public static final int BAD_MESSAGE = -4;
    public static final int BAD_MASK = -5;
    public static final int BAD_THRESHOLD = -6;
    public static final int NO_LIST = -7;
    public static final int BAD_INDEX = -8;
    public static final int BAD_DEGREE = -9;

    private static final int FIELD = 13;
    private static final int LEAST_LENGTH = 4;
    private static final int GREATEST_LENGTH = 13;
    private static final int LEAST_DIMENSION = 1;
    private static final int GREATEST_DIMENSION = 3;
    private static final int LIST_CAPACITY = 13;

    private final int n;
    private final int k;

    // An erased position holds NONE, which is no symbol, so it never equals
    // the symbol of a codeword and never counts as an agreement.
    private final int[] word = new int[GREATEST_LENGTH];

    private final int[] entryC0 = new int[LIST_CAPACITY];
    private final int[] entryC1 = new int[LIST_CAPACITY];
    private final int[] entryC2 = new int[LIST_CAPACITY];

    // The word can't change while there is a list, so an agreement that was
    // counted when the list was made stays right.
    private final int[] entryAgreement = new int[LIST_CAPACITY];

    // NO_LIST stands for no list, which is not the same as an empty one.
    private int listSize = NO_LIST;

    public ListDecoder(int length, int dimension) {
        n = clamp(length, LEAST_LENGTH, GREATEST_LENGTH);
        k = clamp(dimension, LEAST_DIMENSION, GREATEST_DIMENSION);
        for (int x = 0; x < GREATEST_LENGTH; x++) {
            word[x] = NONE;
        }
    }

    public int length() {
        return n;
    }

    public int dimension() {
        return k;
    }

    public int put(int position, int symbol) {
        if (!isPosition(position)) {
            return BAD_POSITION;
        }
        if (!isSymbol(symbol)) {
            return BAD_SYMBOL;
        }
        word[position] = symbol;
        listSize = NO_LIST;
        return OK;
    }

    public int disturb(int position, int delta) {
        if (!isPosition(position)) {
            return BAD_POSITION;
        }
        if (word[position] == NONE) {
            return NONE;
        }
        // The remainder is taken before the sum, which could overflow
        // otherwise; FIELD is added because it may be negative.
        word[position] = (word[position] + delta % FIELD + FIELD) % FIELD;
        listSize = NO_LIST;
        return word[position];
    }

    public int erase(int position) {
        if (!isPosition(position)) {
            return BAD_POSITION;
        }
        word[position] = NONE;
        listSize = NO_LIST;
        return OK;
    }

    public int write(int c0, int c1, int c2, int mask) {
        if (!isMessage(c0, c1, c2)) {
            return BAD_MESSAGE;
        }
        if (mask < 0 || mask > fullMask()) {
            return BAD_MASK;
        }
        return writeCodeword(c0, c1, c2, mask);
    }

    public int symbolAt(int position) {
        if (!isPosition(position)) {
            return BAD_POSITION;
        }
        return word[position];
    }

    public int received() {
        int count = 0;
        for (int x = 0; x < n; x++) {
            if (word[x] != NONE) {
                count++;
            }
        }
        return count;
    }

    public int lowestThreshold() {
        int m = received();
        if (k == 1) {
            return 1;
        }
        if (k == 2) {
            return lowestForDimensionTwo(m);
        }
        return lowestForDimensionThree(m);
    }

    public int decode(int threshold) {
        if (threshold < lowestThreshold()) {
            return BAD_THRESHOLD;
        }
        makeList(threshold);
        return listSize;
    }

    public int size() {
        return listSize;
    }

    public int coefficient(int index, int degree) {
        int refusal = entryRefusal(index);
        if (refusal != OK) {
            return refusal;
        }
        if (degree < 0 || degree >= k) {
            return BAD_DEGREE;
        }
        if (degree == 0) {
            return entryC0[index];
        }
        if (degree == 1) {
            return entryC1[index];
        }
        return entryC2[index];
    }

    public int agreement(int index) {
        int refusal = entryRefusal(index);
        if (refusal != OK) {
            return refusal;
        }
        return entryAgreement[index];
    }

    public int find(int c0, int c1, int c2) {
        if (listSize == NO_LIST) {
            return NO_LIST;
        }
        if (!isMessage(c0, c1, c2)) {
            return BAD_MESSAGE;
        }
        for (int i = 0; i < listSize; i++) {
            if (entryC0[i] == c0 && entryC1[i] == c1 && entryC2[i] == c2) {
                return i;
            }
        }
        return NONE;
    }

    public int best() {
        if (listSize == NO_LIST) {
            return NO_LIST;
        }
        int bestIndex = NONE;
        int bestAgreement = 0;
        // An entry agrees in at least one position, so the first one is
        // always taken; a later one must be better, not as good.
        for (int i = 0; i < listSize; i++) {
            if (entryAgreement[i] > bestAgreement) {
                bestIndex = i;
                bestAgreement = entryAgreement[i];
            }
        }
        return bestIndex;
    }

    public int correct(int index) {
        int refusal = entryRefusal(index);
        if (refusal != OK) {
            return refusal;
        }
        int changed = n - entryAgreement[index];
        int mask = fullMask();
        writeCodeword(entryC0[index], entryC1[index], entryC2[index], mask);
        return changed;
    }

    private static int clamp(int value, int least, int greatest) {
        if (value < least) {
            return least;
        }
        if (value > greatest) {
            return greatest;
        }
        return value;
    }

    private static boolean isSymbol(int value) {
        return value >= 0 && value < FIELD;
    }

    private boolean isPosition(int value) {
        return value >= 0 && value < n;
    }

    private boolean isMessage(int c0, int c1, int c2) {
        if (!isSymbol(c0) || !isSymbol(c1) || !isSymbol(c2)) {
            return false;
        }
        return (k >= 2 || c1 == 0) && (k >= 3 || c2 == 0);
    }

    private int fullMask() {
        return (1 << n) - 1;
    }

    private int entryRefusal(int index) {
        if (listSize == NO_LIST) {
            return NO_LIST;
        }
        if (index < 0 || index >= listSize) {
            return BAD_INDEX;
        }
        return OK;
    }

    private static int codeSymbol(int c0, int c1, int c2, int x) {
        return (c0 + c1 * x + c2 * x * x) % FIELD;
    }

    private int writeCodeword(int c0, int c1, int c2, int mask) {
        int written = 0;
        for (int x = 0; x < n; x++) {
            if ((mask >> x & 1) == 1) {
                word[x] = codeSymbol(c0, c1, c2, x);
                written++;
            }
        }
        listSize = NO_LIST;
        return written;
    }

    private static int lowestForDimensionTwo(int m) {
        if (m == 0) {
            return 1;
        }
        if (m <= 2) {
            return 2;
        }
        if (m <= 5) {
            return 3;
        }
        if (m <= 9) {
            return 4;
        }
        return 5;
    }

    private static int lowestForDimensionThree(int m) {
        if (m == 0) {
            return 1;
        }
        if (m == 1) {
            return 2;
        }
        if (m <= 3) {
            return 3;
        }
        if (m <= 5) {
            return 4;
        }
        if (m <= 8) {
            return 5;
        }
        if (m <= 11) {
            return 6;
        }
        return 7;
    }

    // All messages are tried in the order of the list: there are 2197 at the
    // most, and so the list needs no sorting and holds none twice.
    private void makeList(int threshold) {
        int c1Bound = k >= 2 ? FIELD : 1;
        int c2Bound = k >= 3 ? FIELD : 1;
        listSize = 0;
        for (int c0 = 0; c0 < FIELD; c0++) {
            for (int c1 = 0; c1 < c1Bound; c1++) {
                for (int c2 = 0; c2 < c2Bound; c2++) {
                    int count = countAgreement(c0, c1, c2);
                    if (count >= threshold) {
                        append(c0, c1, c2, count);
                    }
                }
            }
        }
    }

    private int countAgreement(int c0, int c1, int c2) {
        int count = 0;
        for (int x = 0; x < n; x++) {
            if (word[x] == codeSymbol(c0, c1, c2, x)) {
                count++;
            }
        }
        return count;
    }

    private void append(int c0, int c1, int c2, int count) {
        // The accepted thresholds leave no list with more entries than this;
        // the bound is looked at so that no index can ever be out of range.
        if (listSize >= LIST_CAPACITY) {
            return;
        }
        entryC0[listSize] = c0;
        entryC1[listSize] = c1;
        entryC2[listSize] = c2;
        entryAgreement[listSize] = count;
        listSize++;
    }
}
