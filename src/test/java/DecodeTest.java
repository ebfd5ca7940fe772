/** Promises 10 to 12: lowestThreshold, decode, size. */
final class DecodeTest {
    public static void main(String[] args) {
        lowestThresholdFollowsTheTable();
        lowestThresholdIsAGetter();
        decodeRefusesBelowTheLowest();
        decodeTakesGreatThresholds();
        decodeOfTheErasedWord();
        decodeListsThirteen();
        decodeListsInOrder();
        decodeCountsNoErasedPosition();
        decodeReplacesTheList();
        sizeIsAGetter();
        Due.end();
    }

    private static void lowestThresholdFollowsTheTable() {
        int[][] table = {
            {1, 1, 1, 1, 1, 1, 1, 1, 1, 1, 1, 1, 1, 1},
            {1, 2, 2, 3, 3, 3, 4, 4, 4, 4, 5, 5, 5, 5},
            {1, 2, 3, 3, 4, 4, 5, 5, 5, 6, 6, 6, 7, 7}};
        for (int k = 1; k <= 3; k++) {
            for (int n = 4; n <= 13; n++) {
                for (int m = 0; m <= n; m++) {
                    ListDecoder decoder = new ListDecoder(n, k);
                    decoder.write(m % 13, 0, 0, ((1 << m) - 1) << (n - m));
                    String where = " for n " + n + ", k " + k + ", m " + m;
                    int lowest = table[k - 1][m];
                    Due.due("lowestThreshold()" + where, decoder.lowestThreshold(), lowest);
                    Due.due("decode below the lowest" + where, decoder.decode(lowest - 1), ListDecoder.BAD_THRESHOLD);
                    Due.due("size()" + where, decoder.size(), ListDecoder.NO_LIST);
                    Due.due("decode at the lowest" + where, decoder.decode(lowest), lowest <= m ? 1 : 0);
                    Due.due("lowestThreshold() with a list" + where, decoder.lowestThreshold(), lowest);
                }
            }
        }
    }

    private static void lowestThresholdIsAGetter() {
        ListDecoder decoder = new ListDecoder(5, 2);
        decoder.write(4, 6, 0, 15);
        decoder.decode(3);
        Due.due("lowestThreshold()", decoder.lowestThreshold(), 3);
        Due.word("after lowestThreshold", decoder, 4, 10, 3, 9, -1);
        Due.list("after lowestThreshold", decoder, new int[] {4, 6, 0, 4});
    }

    private static void decodeRefusesBelowTheLowest() {
        for (int k = 1; k <= 3; k++) {
            ListDecoder decoder = new ListDecoder(4, k);
            decoder.write(9, 0, 0, 7);
            Due.due("decode(3)", decoder.decode(3), 1);
            for (int bad : Due.EXTREMES) {
                Due.due("decode(" + bad + ")", decoder.decode(bad), ListDecoder.BAD_THRESHOLD);
            }
            Due.due("decode(0)", decoder.decode(0), ListDecoder.BAD_THRESHOLD);
            if (k > 1) {
                Due.due("decode(2)", decoder.decode(2), ListDecoder.BAD_THRESHOLD);
            }
            Due.word("refused decode", decoder, 9, 9, 9, -1);
            Due.list("refused decode", decoder, new int[] {9, 0, 0, 3});
        }
    }

    private static void decodeTakesGreatThresholds() {
        for (int k = 1; k <= 3; k++) {
            ListDecoder decoder = new ListDecoder(13, k);
            decoder.write(9, 0, 0, 8191);
            Due.due("decode(13)", decoder.decode(13), 1);
            Due.list("decode(13)", decoder, new int[] {9, 0, 0, 13});
            for (int threshold : new int[] {14, 15, 100, Integer.MAX_VALUE - 1, Integer.MAX_VALUE}) {
                Due.due("decode(" + threshold + ")", decoder.decode(threshold), 0);
                Due.list("decode(" + threshold + ")", decoder);
            }
            Due.due("received()", decoder.received(), 13);
        }
    }

    private static void decodeOfTheErasedWord() {
        for (int k = 1; k <= 3; k++) {
            ListDecoder decoder = new ListDecoder(8, k);
            for (int threshold : new int[] {1, 2, 3, 8, Integer.MAX_VALUE}) {
                Due.due("decode(" + threshold + ") of the erased word", decoder.decode(threshold), 0);
                Due.due("size() of an empty list", decoder.size(), 0);
            }
            Due.due("decode(0) of the erased word", decoder.decode(0), ListDecoder.BAD_THRESHOLD);
            Due.due("size() of an empty list after a refusal", decoder.size(), 0);
        }
    }

    private static void decodeListsThirteen() {
        ListDecoder decoder = new ListDecoder(13, 1);
        int[][] entries = new int[13][];
        for (int x = 0; x < 13; x++) {
            decoder.put(x, 12 - x);
            entries[x] = new int[] {x, 0, 0, 1};
        }
        Due.due("decode(1) of thirteen symbols", decoder.decode(1), 13);
        Due.list("decode(1) of thirteen symbols", decoder, entries);
        Due.due("decode(2) of thirteen symbols", decoder.decode(2), 0);
    }

    private static void decodeListsInOrder() {
        ListDecoder byC0 = new ListDecoder(8, 1);
        byC0.write(12, 0, 0, 7);
        byC0.write(0, 0, 0, 24);
        byC0.write(5, 0, 0, 224);
        Due.due("decode(2)", byC0.decode(2), 3);
        Due.list("order by c0", byC0, new int[] {0, 0, 0, 2}, new int[] {5, 0, 0, 3}, new int[] {12, 0, 0, 3});

        // Two lines that both pass through (0, 7): they have the same c0.
        ListDecoder byC1 = new ListDecoder(5, 2);
        byC1.write(7, 11, 0, 7);
        byC1.write(7, 2, 0, 24);
        Due.due("decode(3)", byC1.decode(3), 2);
        Due.list("order by c1", byC1, new int[] {7, 2, 0, 3}, new int[] {7, 11, 0, 3});

        // x*x and -x*x meet at 0 alone.
        ListDecoder byC2 = new ListDecoder(13, 3);
        byC2.write(0, 0, 12, 127);
        byC2.write(0, 0, 1, 8064);
        Due.due("decode(7)", byC2.decode(7), 2);
        Due.list("order by c2", byC2, new int[] {0, 0, 1, 7}, new int[] {0, 0, 12, 7});
    }

    private static void decodeCountsNoErasedPosition() {
        ListDecoder decoder = new ListDecoder(13, 3);
        decoder.write(3, 4, 5, 8191);
        for (int x = 0; x < 6; x++) {
            decoder.erase(2 * x);
        }
        Due.due("received()", decoder.received(), 7);
        Due.due("decode(8)", decoder.decode(8), 0);
        Due.due("decode(7)", decoder.decode(7), 1);
        Due.list("seven positions", decoder, new int[] {3, 4, 5, 7});

        // An erased position is no zero: the message 0 must not gain by it.
        ListDecoder zero = new ListDecoder(13, 1);
        zero.put(4, 1);
        Due.due("decode(1)", zero.decode(1), 1);
        Due.list("one position", zero, new int[] {1, 0, 0, 1});
    }

    private static void decodeReplacesTheList() {
        ListDecoder decoder = new ListDecoder(6, 1);
        decoder.write(3, 0, 0, 15);
        decoder.write(8, 0, 0, 48);
        Due.due("decode(3)", decoder.decode(3), 1);
        Due.list("decode(3)", decoder, new int[] {3, 0, 0, 4});
        Due.due("decode(1)", decoder.decode(1), 2);
        Due.list("decode(1)", decoder, new int[] {3, 0, 0, 4}, new int[] {8, 0, 0, 2});
        Due.due("decode(5)", decoder.decode(5), 0);
        Due.list("decode(5)", decoder);
        Due.due("find(3, 0, 0) in the empty list", decoder.find(3, 0, 0), ListDecoder.NONE);
        Due.due("decode(2)", decoder.decode(2), 2);
        Due.list("decode(2)", decoder, new int[] {3, 0, 0, 4}, new int[] {8, 0, 0, 2});
        Due.word("decode", decoder, 3, 3, 3, 3, 8, 8);
    }

    private static void sizeIsAGetter() {
        ListDecoder decoder = new ListDecoder(4, 1);
        Due.due("size()", decoder.size(), ListDecoder.NO_LIST);
        Due.due("size() again", decoder.size(), ListDecoder.NO_LIST);
        decoder.decode(1);
        Due.due("size() of an empty list", decoder.size(), 0);
        Due.due("size() of an empty list again", decoder.size(), 0);
        decoder.put(0, 1);
        decoder.put(1, 2);
        Due.due("size() after put", decoder.size(), ListDecoder.NO_LIST);
        decoder.decode(1);
        Due.due("size() of a list", decoder.size(), 2);
        Due.list("after size", decoder, new int[] {1, 0, 0, 1}, new int[] {2, 0, 0, 1});
        Due.word("after size", decoder, 1, 2, -1, -1);
    }
}
