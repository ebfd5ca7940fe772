/** Promises 1 to 3: constructor and start, length, dimension. */
final class StartTest {
    public static void main(String[] args) {
        constants();
        clampsLength();
        clampsDimension();
        startsErasedAndWithoutList();
        lengthAndDimensionNeverChange();
        objectsAreApart();
        Due.end();
    }

    private static void constants() {
        Due.due("OK", ListDecoder.OK, 0);
        Due.due("NONE", ListDecoder.NONE, -1);
        Due.due("BAD_POSITION", ListDecoder.BAD_POSITION, -2);
        Due.due("BAD_SYMBOL", ListDecoder.BAD_SYMBOL, -3);
        Due.due("BAD_MESSAGE", ListDecoder.BAD_MESSAGE, -4);
        Due.due("BAD_MASK", ListDecoder.BAD_MASK, -5);
        Due.due("BAD_THRESHOLD", ListDecoder.BAD_THRESHOLD, -6);
        Due.due("NO_LIST", ListDecoder.NO_LIST, -7);
        Due.due("BAD_INDEX", ListDecoder.BAD_INDEX, -8);
        Due.due("BAD_DEGREE", ListDecoder.BAD_DEGREE, -9);
    }

    private static void clampsLength() {
        int[][] pairs = {{Integer.MIN_VALUE, 4}, {-1, 4}, {0, 4}, {3, 4}, {4, 4}, {5, 5}, {6, 6}, {7, 7},
            {8, 8}, {9, 9}, {10, 10}, {11, 11}, {12, 12}, {13, 13}, {14, 13}, {1000, 13}, {Integer.MAX_VALUE, 13}};
        for (int[] pair : pairs) {
            for (int dimension = 1; dimension <= 3; dimension++) {
                ListDecoder decoder = new ListDecoder(pair[0], dimension);
                Due.due("length() for length " + pair[0], decoder.length(), pair[1]);
                Due.due("dimension() for length " + pair[0], decoder.dimension(), dimension);
                Due.due("symbolAt(n-1) for length " + pair[0], decoder.symbolAt(pair[1] - 1), ListDecoder.NONE);
                Due.due("symbolAt(n) for length " + pair[0], decoder.symbolAt(pair[1]), ListDecoder.BAD_POSITION);
            }
        }
    }

    private static void clampsDimension() {
        int[][] pairs = {{Integer.MIN_VALUE, 1}, {-1, 1}, {0, 1}, {1, 1}, {2, 2}, {3, 3}, {4, 3}, {13, 3},
            {Integer.MAX_VALUE, 3}};
        for (int[] pair : pairs) {
            for (int length = 4; length <= 13; length++) {
                ListDecoder decoder = new ListDecoder(length, pair[0]);
                Due.due("dimension() for dimension " + pair[0], decoder.dimension(), pair[1]);
                Due.due("length() for dimension " + pair[0], decoder.length(), length);
            }
        }
    }

    private static void startsErasedAndWithoutList() {
        for (int length = 4; length <= 13; length++) {
            for (int dimension = 1; dimension <= 3; dimension++) {
                ListDecoder decoder = new ListDecoder(length, dimension);
                Due.due("received() at the start", decoder.received(), 0);
                for (int x = 0; x < length; x++) {
                    Due.due("symbolAt(" + x + ") at the start", decoder.symbolAt(x), ListDecoder.NONE);
                }
                Due.due("lowestThreshold() at the start", decoder.lowestThreshold(), 1);
                Due.due("size() at the start", decoder.size(), ListDecoder.NO_LIST);
                Due.due("best() at the start", decoder.best(), ListDecoder.NO_LIST);
                Due.due("coefficient(0, 0) at the start", decoder.coefficient(0, 0), ListDecoder.NO_LIST);
                Due.due("agreement(0) at the start", decoder.agreement(0), ListDecoder.NO_LIST);
                Due.due("find(0, 0, 0) at the start", decoder.find(0, 0, 0), ListDecoder.NO_LIST);
                Due.due("correct(0) at the start", decoder.correct(0), ListDecoder.NO_LIST);
            }
        }
    }

    private static void lengthAndDimensionNeverChange() {
        ListDecoder decoder = new ListDecoder(7, 2);
        decoder.put(3, 3);
        sevenAndTwo("after put", decoder);
        decoder.disturb(3, 1);
        sevenAndTwo("after disturb", decoder);
        decoder.write(1, 1, 0, 127);
        sevenAndTwo("after write", decoder);
        decoder.erase(0);
        sevenAndTwo("after erase", decoder);
        decoder.decode(4);
        sevenAndTwo("with a list", decoder);
        decoder.correct(0);
        sevenAndTwo("after correct", decoder);
        decoder.decode(Integer.MAX_VALUE);
        sevenAndTwo("with an empty list", decoder);
        decoder.write(1, 1, 1, 127);
        sevenAndTwo("after a refused write", decoder);
    }

    private static void sevenAndTwo(String where, ListDecoder decoder) {
        Due.due("length() " + where, decoder.length(), 7);
        Due.due("dimension() " + where, decoder.dimension(), 2);
    }

    private static void objectsAreApart() {
        ListDecoder first = new ListDecoder(4, 1);
        ListDecoder second = new ListDecoder(4, 1);
        first.put(0, 5);
        first.decode(1);
        Due.word("the other object", second, -1, -1, -1, -1);
        Due.due("size() of the other object", second.size(), ListDecoder.NO_LIST);
        second.put(0, 6);
        Due.word("the first object", first, 5, -1, -1, -1);
        Due.list("the first object", first, new int[] {5, 0, 0, 1});
    }
}
