/** Promise 10: lowestThreshold. */
final class LowestThresholdTest {
    public static void main(String[] args) {
        Due.sentence("lowestThreshold() is a getter", LowestThresholdTest::isAGetter);
        Due.sentence("k = 1, every m: 1", () -> row(1, 0, 13, 1));
        Due.sentence("k = 2, m = 0: 1", () -> row(2, 0, 0, 1));
        Due.sentence("k = 2, m = 1..2: 2", () -> row(2, 1, 2, 2));
        Due.sentence("k = 2, m = 3..5: 3", () -> row(2, 3, 5, 3));
        Due.sentence("k = 2, m = 6..9: 4", () -> row(2, 6, 9, 4));
        Due.sentence("k = 2, m = 10..13: 5", () -> row(2, 10, 13, 5));
        Due.sentence("k = 3, m = 0: 1", () -> row(3, 0, 0, 1));
        Due.sentence("k = 3, m = 1: 2", () -> row(3, 1, 1, 2));
        Due.sentence("k = 3, m = 2..3: 3", () -> row(3, 2, 3, 3));
        Due.sentence("k = 3, m = 4..5: 4", () -> row(3, 4, 5, 4));
        Due.sentence("k = 3, m = 6..8: 5", () -> row(3, 6, 8, 5));
        Due.sentence("k = 3, m = 9..11: 6", () -> row(3, 9, 11, 6));
        Due.sentence("k = 3, m = 12..13: 7", () -> row(3, 12, 13, 7));
        Due.sentence("It does not depend on n", LowestThresholdTest::notOnTheLength);
        Due.sentence("nor on the symbols", LowestThresholdTest::notOnTheSymbols);
        Due.sentence("nor on which positions are held", LowestThresholdTest::notOnThePositions);
        Due.sentence("nor on the list", LowestThresholdTest::notOnTheList);
        Due.sentence("for the present m", LowestThresholdTest::followsTheWord);
        Due.sentence("The lowest threshold can be above m", LowestThresholdTest::canBeAboveReceived);
        Due.end();
    }

    private static void isAGetter() {
        for (Situation situation : Situation.all()) {
            int m = Due.held(situation.word());
            Due.keeps(situation, Call.lowestThreshold(), Model.LOWEST[situation.k() - 1][m]);
        }
    }

    private static void row(int k, int least, int greatest, int lowest) {
        for (int m = least; m <= greatest; m++) {
            ListDecoder decoder = new ListDecoder(13, k);
            decoder.write(1, 0, 0, (1 << m) - 1);
            Due.due("lowestThreshold() for m " + m, decoder.lowestThreshold(), lowest);
            Due.due("decode just below, for m " + m, decoder.decode(lowest - 1), ListDecoder.BAD_THRESHOLD);
            Due.due("decode just there, for m " + m, decoder.decode(lowest), m >= lowest ? 1 : 0);
        }
    }

    private static void notOnTheLength() {
        for (int k = 1; k <= 3; k++) {
            for (int n = 4; n <= 13; n++) {
                for (int m = 0; m <= n; m++) {
                    ListDecoder decoder = new ListDecoder(n, k);
                    decoder.write(1, 0, 0, (1 << m) - 1);
                    Due.due("lowestThreshold() for n " + n + ", m " + m, decoder.lowestThreshold(),
                            Model.LOWEST[k - 1][m]);
                }
            }
        }
    }

    private static void notOnTheSymbols() {
        for (int k = 1; k <= 3; k++) {
            for (int m = 0; m <= 13; m++) {
                for (int symbol = 0; symbol <= 12; symbol++) {
                    ListDecoder decoder = new ListDecoder(13, k);
                    decoder.write(symbol, 0, 0, (1 << m) - 1);
                    Due.due("lowestThreshold() with the symbol " + symbol, decoder.lowestThreshold(),
                            Model.LOWEST[k - 1][m]);
                    for (int x = 0; x < m; x++) {
                        decoder.disturb(x, x * x * x);
                    }
                    Due.due("lowestThreshold() with many symbols", decoder.lowestThreshold(),
                            Model.LOWEST[k - 1][m]);
                }
            }
        }
    }

    private static void notOnThePositions() {
        for (int k = 1; k <= 3; k++) {
            for (int mask = 0; mask < 8192; mask++) {
                ListDecoder decoder = new ListDecoder(13, k);
                decoder.write(12, 0, 0, mask);
                Due.due("lowestThreshold() with the positions of " + mask, decoder.lowestThreshold(),
                        Model.LOWEST[k - 1][Integer.bitCount(mask)]);
            }
        }
    }

    private static void notOnTheList() {
        for (int k = 1; k <= 3; k++) {
            for (int m = 0; m <= 13; m++) {
                ListDecoder decoder = new ListDecoder(13, k);
                decoder.write(1, 0, 0, (1 << m) - 1);
                int lowest = Model.LOWEST[k - 1][m];
                Due.due("lowestThreshold() without a list", decoder.lowestThreshold(), lowest);
                decoder.decode(7);
                Due.due("lowestThreshold() with a list", decoder.lowestThreshold(), lowest);
                decoder.decode(Integer.MAX_VALUE);
                Due.due("lowestThreshold() with an empty list", decoder.lowestThreshold(), lowest);
            }
        }
    }

    private static void followsTheWord() {
        for (int k = 1; k <= 3; k++) {
            ListDecoder decoder = new ListDecoder(13, k);
            for (int x = 0; x < 13; x++) {
                decoder.put(x, 4);
                Due.due("lowestThreshold() after put", decoder.lowestThreshold(), Model.LOWEST[k - 1][x + 1]);
            }
            for (int x = 0; x < 13; x++) {
                decoder.erase(x);
                Due.due("lowestThreshold() after erase", decoder.lowestThreshold(), Model.LOWEST[k - 1][12 - x]);
            }
            decoder.write(0, 0, 0, 127);
            Due.due("lowestThreshold() after write", decoder.lowestThreshold(), Model.LOWEST[k - 1][7]);
            decoder.decode(7);
            decoder.correct(0);
            Due.due("lowestThreshold() after correct", decoder.lowestThreshold(), Model.LOWEST[k - 1][13]);
        }
    }

    private static void canBeAboveReceived() {
        for (int k = 1; k <= 3; k++) {
            Due.answer(new ListDecoder(4, k), Call.lowestThreshold(), 1);
        }
        for (int k = 2; k <= 3; k++) {
            ListDecoder one = new ListDecoder(4, k);
            one.put(0, 0);
            Due.answer(one, Call.lowestThreshold(), 2);
            Due.answer(one, Call.decode(2), 0);
        }
        ListDecoder two = new ListDecoder(4, 3);
        two.put(0, 0);
        two.put(1, 0);
        Due.answer(two, Call.lowestThreshold(), 3);
        Due.answer(two, Call.decode(3), 0);
    }
}
