/** Promise 1: constructor and start. */
final class ConstructorTest {
    private static final int[] ANY = {Integer.MIN_VALUE, -2147483647, -65536, -256, -13, -4, -1, 0, 1, 2, 3, 4, 5, 6,
        7, 8, 9, 10, 11, 12, 13, 14, 15, 16, 17, 256, 260, 65540, 2147483646, Integer.MAX_VALUE};

    public static void main(String[] args) {
        Due.sentence("The constructor accepts every pair of ints", ConstructorTest::everyPair);
        Due.sentence("n is length", ConstructorTest::lengthInside);
        Due.sentence("n is 4 if length is below 4", ConstructorTest::lengthTooSmall);
        Due.sentence("n is 13 if length is above 13", ConstructorTest::lengthTooLarge);
        Due.sentence("k is dimension", ConstructorTest::dimensionInside);
        Due.sentence("k is 1 if dimension is below 1", ConstructorTest::dimensionTooSmall);
        Due.sentence("k is 3 if dimension is above 3", ConstructorTest::dimensionTooLarge);
        Due.sentence("At the start all positions are erased", ConstructorTest::startErased);
        Due.sentence("At the start m = 0", ConstructorTest::startReceived);
        Due.sentence("At the start the decoder holds no list", ConstructorTest::startNoList);
        Due.sentence("n and k never change afterwards", ConstructorTest::neverChange);
        Due.sentence("The decoder holds one word: each object its own", ConstructorTest::objectsAreApart);
        Due.end();
    }

    /** The positions that are taken tell n, and the degrees that are taken tell k. */
    private static void holds(int length, int dimension, int n, int k) {
        String where = "ListDecoder(" + length + ", " + dimension + ")";
        ListDecoder decoder = new ListDecoder(length, dimension);
        Due.due(where + ": length()", decoder.length(), n);
        Due.due(where + ": dimension()", decoder.dimension(), k);
        Due.due(where + ": put(n-1, 1)", decoder.put(n - 1, 1), ListDecoder.OK);
        Due.due(where + ": put(n, 1)", decoder.put(n, 1), ListDecoder.BAD_POSITION);
        Due.due(where + ": write(1, 0, 0, 2^n-1)", decoder.write(1, 0, 0, (1 << n) - 1), n);
        Due.due(where + ": decode(n)", decoder.decode(n), 1);
        for (int degree = 0; degree <= 3; degree++) {
            Due.due(where + ": coefficient(0, " + degree + ")", decoder.coefficient(0, degree),
                    degree >= k ? ListDecoder.BAD_DEGREE : degree == 0 ? 1 : 0);
        }
    }

    private static void everyPair() {
        for (int length : ANY) {
            for (int dimension : ANY) {
                holds(length, dimension, Math.min(13, Math.max(4, length)), Math.min(3, Math.max(1, dimension)));
            }
        }
    }

    private static void lengthInside() {
        for (int length = 4; length <= 13; length++) {
            holds(length, 2, length, 2);
        }
    }

    private static void lengthTooSmall() {
        for (int length : new int[] {3, 2, 1, 0, -1, -4, -13, Integer.MIN_VALUE}) {
            holds(length, 2, 4, 2);
        }
    }

    private static void lengthTooLarge() {
        for (int length : new int[] {14, 15, 26, 256, 65536, Integer.MAX_VALUE}) {
            holds(length, 2, 13, 2);
        }
    }

    private static void dimensionInside() {
        for (int dimension = 1; dimension <= 3; dimension++) {
            holds(8, dimension, 8, dimension);
        }
    }

    private static void dimensionTooSmall() {
        for (int dimension : new int[] {0, -1, -2, -3, -13, Integer.MIN_VALUE}) {
            holds(8, dimension, 8, 1);
        }
    }

    private static void dimensionTooLarge() {
        for (int dimension : new int[] {4, 5, 8, 13, 256, 65536, Integer.MAX_VALUE}) {
            holds(8, dimension, 8, 3);
        }
    }

    private static void startErased() {
        for (int length = 4; length <= 13; length++) {
            for (int dimension = 1; dimension <= 3; dimension++) {
                ListDecoder decoder = new ListDecoder(length, dimension);
                for (int x = 0; x < length; x++) {
                    Due.answer(decoder, Call.symbolAt(x), ListDecoder.NONE);
                    Due.answer(decoder, Call.disturb(x, 1), ListDecoder.NONE);
                }
            }
        }
    }

    private static void startReceived() {
        for (int length : ANY) {
            for (int dimension : ANY) {
                ListDecoder decoder = new ListDecoder(length, dimension);
                Due.answer(decoder, Call.received(), 0);
                Due.answer(decoder, Call.lowestThreshold(), 1);
            }
        }
    }

    private static void startNoList() {
        for (int length : ANY) {
            for (int dimension : ANY) {
                Due.noList("the start", new ListDecoder(length, dimension));
            }
        }
    }

    private static void neverChange() {
        for (Situation situation : Situation.all()) {
            for (Call call : changes()) {
                ListDecoder decoder = situation.make();
                call.on(decoder);
                String where = call.text() + " on " + situation.name();
                Due.due(where + ": length()", decoder.length(), situation.n());
                Due.due(where + ": dimension()", decoder.dimension(), situation.k());
                Due.due(where + ": symbolAt(n)", decoder.symbolAt(situation.n()), ListDecoder.BAD_POSITION);
                Due.due(where + ": put(n-1, 0)", decoder.put(situation.n() - 1, 0), ListDecoder.OK);
            }
        }
    }

    private static Call[] changes() {
        return new Call[] {Call.put(0, 1), Call.put(13, 1), Call.put(0, 13), Call.disturb(0, 1), Call.disturb(-1, 1),
            Call.erase(0), Call.erase(13), Call.write(1, 0, 0, 15), Call.write(1, 2, 3, 15), Call.write(1, 0, 0, -1),
            Call.decode(0), Call.decode(7), Call.decode(Integer.MAX_VALUE), Call.correct(0), Call.correct(-1),
            Call.correct(13)};
    }

    private static void objectsAreApart() {
        ListDecoder first = new ListDecoder(4, 1);
        ListDecoder second = new ListDecoder(4, 1);
        first.put(0, 5);
        first.decode(1);
        Due.word("the other object", second, -1, -1, -1, -1);
        Due.noList("the other object", second);
        second.put(0, 6);
        Due.word("the first object", first, 5, -1, -1, -1);
        Due.list("the first object", first, new int[] {5, 0, 0, 1});
    }
}
