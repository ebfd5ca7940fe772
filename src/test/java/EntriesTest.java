/** Promises 13 to 17: coefficient, agreement, find, best, correct. */
final class EntriesTest {
    private static final int[] FIRST = {1, 5, 0, 4};
    private static final int[] SECOND = {8, 2, 0, 5};
    private static final int[] INDICES_OUTSIDE = {Integer.MIN_VALUE, -13, -1, 2, 3, 12, 13, Integer.MAX_VALUE};

    public static void main(String[] args) {
        coefficientAnswers();
        coefficientRefuses();
        agreementAnswers();
        findAnswers();
        findRefuses();
        bestAnswers();
        correctAnswers();
        correctCounts();
        correctRefuses();
        emptyList();
        noList();
        Due.end();
    }

    /** Length 10, dimension 2, position 9 erased; the list has the entries FIRST and SECOND. */
    private static ListDecoder withList() {
        ListDecoder decoder = new ListDecoder(10, 2);
        Due.due("write(8, 2, 0, 31)", decoder.write(8, 2, 0, 31), 5);
        Due.due("write(1, 5, 0, 480)", decoder.write(1, 5, 0, 480), 4);
        Due.due("decode(4)", decoder.decode(4), 2);
        return decoder;
    }

    private static void unchanged(String where, ListDecoder decoder) {
        Due.word(where, decoder, 8, 10, 12, 1, 3, 0, 5, 10, 2, -1);
        Due.list(where, decoder, FIRST, SECOND);
    }

    private static void coefficientAnswers() {
        ListDecoder decoder = withList();
        Due.due("coefficient(0, 0)", decoder.coefficient(0, 0), 1);
        Due.due("coefficient(0, 1)", decoder.coefficient(0, 1), 5);
        Due.due("coefficient(1, 0)", decoder.coefficient(1, 0), 8);
        Due.due("coefficient(1, 1)", decoder.coefficient(1, 1), 2);
        unchanged("coefficient", decoder);

        ListDecoder three = new ListDecoder(5, 3);
        three.write(10, 11, 12, 31);
        Due.due("decode(5)", three.decode(5), 1);
        Due.due("coefficient(0, 0) for k = 3", three.coefficient(0, 0), 10);
        Due.due("coefficient(0, 1) for k = 3", three.coefficient(0, 1), 11);
        Due.due("coefficient(0, 2) for k = 3", three.coefficient(0, 2), 12);
        Due.due("coefficient(0, 3) for k = 3", three.coefficient(0, 3), ListDecoder.BAD_DEGREE);

        ListDecoder one = new ListDecoder(5, 1);
        one.put(0, 6);
        Due.due("decode(1)", one.decode(1), 1);
        Due.due("coefficient(0, 0) for k = 1", one.coefficient(0, 0), 6);
        Due.due("coefficient(0, 1) for k = 1", one.coefficient(0, 1), ListDecoder.BAD_DEGREE);
        Due.due("coefficient(0, 2) for k = 1", one.coefficient(0, 2), ListDecoder.BAD_DEGREE);
    }

    private static void coefficientRefuses() {
        ListDecoder decoder = withList();
        for (int bad : INDICES_OUTSIDE) {
            Due.due("coefficient(" + bad + ", 0)", decoder.coefficient(bad, 0), ListDecoder.BAD_INDEX);
            Due.due("coefficient(" + bad + ", -1)", decoder.coefficient(bad, -1), ListDecoder.BAD_INDEX);
            Due.due("coefficient(" + bad + ", 2)", decoder.coefficient(bad, 2), ListDecoder.BAD_INDEX);
            // Outside 0..1 as an index is outside 0..1 as a degree too.
            Due.due("coefficient(1, " + bad + ")", decoder.coefficient(1, bad), ListDecoder.BAD_DEGREE);
        }
        unchanged("refused coefficient", decoder);
    }

    private static void agreementAnswers() {
        ListDecoder decoder = withList();
        Due.due("agreement(0)", decoder.agreement(0), 4);
        Due.due("agreement(1)", decoder.agreement(1), 5);
        for (int bad : INDICES_OUTSIDE) {
            Due.due("agreement(" + bad + ")", decoder.agreement(bad), ListDecoder.BAD_INDEX);
        }
        unchanged("agreement", decoder);
    }

    private static void findAnswers() {
        ListDecoder decoder = withList();
        Due.due("find(1, 5, 0)", decoder.find(1, 5, 0), 0);
        Due.due("find(8, 2, 0)", decoder.find(8, 2, 0), 1);
        Due.due("find(1, 2, 0)", decoder.find(1, 2, 0), ListDecoder.NONE);
        Due.due("find(8, 5, 0)", decoder.find(8, 5, 0), ListDecoder.NONE);
        Due.due("find(0, 0, 0)", decoder.find(0, 0, 0), ListDecoder.NONE);
        Due.due("find(12, 12, 0)", decoder.find(12, 12, 0), ListDecoder.NONE);
        unchanged("find", decoder);

        ListDecoder three = new ListDecoder(5, 3);
        three.write(10, 11, 12, 31);
        Due.due("decode(5)", three.decode(5), 1);
        Due.due("find(10, 11, 12)", three.find(10, 11, 12), 0);
        Due.due("find(10, 11, 0)", three.find(10, 11, 0), ListDecoder.NONE);
        Due.due("find(10, 0, 12)", three.find(10, 0, 12), ListDecoder.NONE);
        Due.due("find(0, 11, 12)", three.find(0, 11, 12), ListDecoder.NONE);
    }

    private static void findRefuses() {
        ListDecoder decoder = withList();
        for (int bad : new int[] {Integer.MIN_VALUE, -13, -1, 13, 14, Integer.MAX_VALUE}) {
            Due.due("find(" + bad + ", 5, 0)", decoder.find(bad, 5, 0), ListDecoder.BAD_MESSAGE);
            Due.due("find(1, " + bad + ", 0)", decoder.find(1, bad, 0), ListDecoder.BAD_MESSAGE);
            Due.due("find(1, 5, " + bad + ")", decoder.find(1, 5, bad), ListDecoder.BAD_MESSAGE);
        }
        Due.due("find(1, 5, 1) for k = 2", decoder.find(1, 5, 1), ListDecoder.BAD_MESSAGE);
        unchanged("refused find", decoder);

        ListDecoder one = new ListDecoder(4, 1);
        one.put(0, 1);
        one.decode(1);
        Due.due("find(1, 1, 0) for k = 1", one.find(1, 1, 0), ListDecoder.BAD_MESSAGE);
        Due.due("find(1, 0, 1) for k = 1", one.find(1, 0, 1), ListDecoder.BAD_MESSAGE);
        Due.due("find(1, 0, 0) for k = 1", one.find(1, 0, 0), 0);
    }

    private static void bestAnswers() {
        ListDecoder decoder = withList();
        Due.due("best()", decoder.best(), 1);
        unchanged("best", decoder);

        Due.due("put(9, 7)", decoder.put(9, 7), ListDecoder.OK);
        Due.due("decode(5)", decoder.decode(5), 2);
        Due.list("two as good", decoder, new int[] {1, 5, 0, 5}, new int[] {8, 2, 0, 5});
        Due.due("best() of two as good", decoder.best(), 0);

        // The greatest agreement stands at the indices 1 and 3 of four.
        ListDecoder one = new ListDecoder(6, 1);
        one.put(0, 2);
        one.write(4, 0, 0, 6);
        one.put(3, 6);
        one.write(8, 0, 0, 48);
        Due.due("decode(1)", one.decode(1), 4);
        Due.due("best() of four", one.best(), 1);

        ListDecoder least = new ListDecoder(13, 1);
        for (int x = 0; x < 13; x++) {
            least.put(x, 12 - x);
            Due.due("decode(1)", least.decode(1), x + 1);
            Due.due("best() of agreements of 1", least.best(), 0);
        }
    }

    private static void correctAnswers() {
        ListDecoder decoder = withList();
        Due.due("correct(0)", decoder.correct(0), 6);
        Due.word("correct(0)", decoder, 1, 6, 11, 3, 8, 0, 5, 10, 2, 7);
        Due.due("size() after correct", decoder.size(), ListDecoder.NO_LIST);
        Due.due("correct(0) without a list", decoder.correct(0), ListDecoder.NO_LIST);

        decoder = withList();
        Due.due("correct(1)", decoder.correct(1), 5);
        Due.word("correct(1)", decoder, 8, 10, 12, 1, 3, 5, 7, 9, 11, 0);
        Due.due("decode(10)", decoder.decode(10), 1);
        Due.due("correct(0) of the codeword", decoder.correct(0), 0);
        Due.word("correct(0) of the codeword", decoder, 8, 10, 12, 1, 3, 5, 7, 9, 11, 0);
        Due.due("size() after correct of the codeword", decoder.size(), ListDecoder.NO_LIST);
    }

    private static void correctCounts() {
        for (int n = 4; n <= 13; n++) {
            for (int held = 3; held <= n; held++) {
                ListDecoder decoder = new ListDecoder(n, 3);
                decoder.write(6, 7, 8, (1 << held) - 1);
                Due.due("decode", decoder.decode(Math.max(held, 3)), held >= decoder.lowestThreshold() ? 1 : 0);
                if (decoder.size() == 1) {
                    Due.due("correct(0) with erased positions", decoder.correct(0), n - held);
                    Due.due("received() after correct", decoder.received(), n);
                    Due.due("decode(n) after correct", decoder.decode(n), 1);
                    Due.list("after correct", decoder, new int[] {6, 7, 8, n});
                }
            }
        }
    }

    private static void correctRefuses() {
        ListDecoder decoder = withList();
        for (int bad : INDICES_OUTSIDE) {
            Due.due("correct(" + bad + ")", decoder.correct(bad), ListDecoder.BAD_INDEX);
        }
        unchanged("refused correct", decoder);
    }

    private static void emptyList() {
        ListDecoder decoder = withList();
        Due.due("decode(6)", decoder.decode(6), 0);
        for (int index : new int[] {Integer.MIN_VALUE, -1, 0, 1, 13, Integer.MAX_VALUE}) {
            Due.due("coefficient of an empty list", decoder.coefficient(index, 0), ListDecoder.BAD_INDEX);
            Due.due("coefficient of an empty list, bad degree", decoder.coefficient(index, 9), ListDecoder.BAD_INDEX);
            Due.due("agreement of an empty list", decoder.agreement(index), ListDecoder.BAD_INDEX);
            Due.due("correct of an empty list", decoder.correct(index), ListDecoder.BAD_INDEX);
        }
        Due.due("find in an empty list", decoder.find(1, 5, 0), ListDecoder.NONE);
        Due.due("find of the zero message in an empty list", decoder.find(0, 0, 0), ListDecoder.NONE);
        Due.due("find of no message in an empty list", decoder.find(1, 5, 1), ListDecoder.BAD_MESSAGE);
        Due.due("best of an empty list", decoder.best(), ListDecoder.NONE);
        Due.list("the empty list stays", decoder);
        Due.word("the empty list stays", decoder, 8, 10, 12, 1, 3, 0, 5, 10, 2, -1);
    }

    private static void noList() {
        ListDecoder decoder = withList();
        decoder.erase(9);
        for (int index : new int[] {Integer.MIN_VALUE, -1, 0, 1, 13, Integer.MAX_VALUE}) {
            Due.due("coefficient without a list", decoder.coefficient(index, 0), ListDecoder.NO_LIST);
            Due.due("coefficient without a list, bad degree", decoder.coefficient(index, 9), ListDecoder.NO_LIST);
            Due.due("agreement without a list", decoder.agreement(index), ListDecoder.NO_LIST);
            Due.due("correct without a list", decoder.correct(index), ListDecoder.NO_LIST);
        }
        Due.due("find without a list", decoder.find(1, 5, 0), ListDecoder.NO_LIST);
        Due.due("find of no message without a list", decoder.find(99, -1, 1), ListDecoder.NO_LIST);
        Due.due("best without a list", decoder.best(), ListDecoder.NO_LIST);
        Due.due("size without a list", decoder.size(), ListDecoder.NO_LIST);
        Due.word("without a list", decoder, 8, 10, 12, 1, 3, 0, 5, 10, 2, -1);
    }
}
