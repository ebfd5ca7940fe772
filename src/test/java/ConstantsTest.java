/** The table of the public constants: each value, and the edges in each meaning. */
final class ConstantsTest {
    public static void main(String[] args) {
        Due.sentence("The public constants: names and values", ConstantsTest::values);
        Due.sentence("OK: accepted", ConstantsTest::ok);
        Due.sentence("NONE: an erased position", ConstantsTest::noneForAnErasedPosition);
        Due.sentence("NONE: no such entry", ConstantsTest::noneForNoSuchEntry);
        Due.sentence("BAD_POSITION: the position is below 0", ConstantsTest::positionBelowZero);
        Due.sentence("BAD_POSITION: the position is above n-1", ConstantsTest::positionAboveTheLast);
        Due.sentence("BAD_SYMBOL: the symbol is below 0", ConstantsTest::symbolBelowZero);
        Due.sentence("BAD_SYMBOL: the symbol is above 12", ConstantsTest::symbolAboveTwelve);
        Due.sentence("BAD_MESSAGE: some ci is below 0", ConstantsTest::coefficientBelowZero);
        Due.sentence("BAD_MESSAGE: some ci is above 12", ConstantsTest::coefficientAboveTwelve);
        Due.sentence("BAD_MESSAGE: some ci with i >= k is not 0", ConstantsTest::messageTooLong);
        Due.sentence("BAD_MASK: the mask is below 0", ConstantsTest::maskBelowZero);
        Due.sentence("BAD_MASK: the mask is not below 2 to the power n", ConstantsTest::maskTooGreat);
        Due.sentence("BAD_THRESHOLD: the threshold is below the lowest threshold", ConstantsTest::threshold);
        Due.sentence("NO_LIST: the decoder holds no list", ConstantsTest::noList);
        Due.sentence("BAD_INDEX: the index is below 0", ConstantsTest::indexBelowZero);
        Due.sentence("BAD_INDEX: the index is not below the size of the list", ConstantsTest::indexTooGreat);
        Due.sentence("BAD_DEGREE: the degree is below 0", ConstantsTest::degreeBelowZero);
        Due.sentence("BAD_DEGREE: the degree is above k-1", ConstantsTest::degreeTooGreat);
        Due.end();
    }

    private static void values() {
        Due.due("OK", ListDecoder.OK, 0);
        Due.due("NONE", ListDecoder.NONE, -1);
        Due.due("BAD_POSITION", ListDecoder.BAD_POSITION, -2);
        Due.due("BAD_SYMBOL", ListDecoder.BAD_SYMBOL, -3);
        Due.due("BAD_MESSAGE", ListDecoder.BAD_MESSAGE, -4);
        Due.due("BAD_MASK", ListDecoder.BAD_MASK, -5);
        Due.due("BAD_THRESHOLD", ListDecoder.BAD_THRESHOLD, -6);
        Due.due("NO_LIST", ListDecoder.NO_LIST, -7);
        Due.due("BAD_INDEX", ListDecoder.BAD_INDEX, -8);
        Due.due("BAD_DEGREE", ListDecoder.BAD_DEGREE, -9);
    }

    private static void ok() {
        ListDecoder decoder = new ListDecoder(4, 1);
        Due.answer(decoder, Call.put(0, 12), 0);
        Due.answer(decoder, Call.erase(0), 0);
    }

    private static void noneForAnErasedPosition() {
        ListDecoder decoder = new ListDecoder(4, 1);
        for (int x = 0; x < 4; x++) {
            Due.answer(decoder, Call.symbolAt(x), -1);
            Due.answer(decoder, Call.disturb(x, 1), -1);
        }
    }

    private static void noneForNoSuchEntry() {
        ListDecoder decoder = new ListDecoder(4, 1);
        decoder.decode(1);
        Due.answer(decoder, Call.find(0, 0, 0), -1);
        Due.answer(decoder, Call.best(), -1);
        decoder.put(0, 3);
        decoder.decode(1);
        Due.answer(decoder, Call.find(2, 0, 0), -1);
        Due.answer(decoder, Call.find(4, 0, 0), -1);
    }

    private static void positionBelowZero() {
        for (int n = 4; n <= 13; n++) {
            for (int bad : Numbers.BELOW_ZERO) {
                positionIsBad(n, bad);
            }
            positionIsGood(n, 0);
        }
    }

    private static void positionAboveTheLast() {
        for (int n = 4; n <= 13; n++) {
            for (int bad : Numbers.from(n)) {
                positionIsBad(n, bad);
            }
            positionIsGood(n, n - 1);
        }
    }

    private static void positionIsBad(int n, int position) {
        ListDecoder decoder = new ListDecoder(n, 2);
        decoder.write(1, 1, 0, (1 << n) - 1);
        Due.answer(decoder, Call.put(position, 0), -2);
        Due.answer(decoder, Call.disturb(position, 1), -2);
        Due.answer(decoder, Call.erase(position), -2);
        Due.answer(decoder, Call.symbolAt(position), -2);
    }

    private static void positionIsGood(int n, int position) {
        ListDecoder decoder = new ListDecoder(n, 2);
        Due.answer(decoder, Call.put(position, 5), 0);
        Due.answer(decoder, Call.disturb(position, 1), 6);
        Due.answer(decoder, Call.symbolAt(position), 6);
        Due.answer(decoder, Call.erase(position), 0);
    }

    private static void symbolBelowZero() {
        ListDecoder decoder = new ListDecoder(4, 1);
        for (int bad : Numbers.BELOW_ZERO) {
            Due.answer(decoder, Call.put(0, bad), -3);
        }
        Due.answer(decoder, Call.put(0, 0), 0);
    }

    private static void symbolAboveTwelve() {
        ListDecoder decoder = new ListDecoder(4, 1);
        for (int bad : Numbers.from(13)) {
            Due.answer(decoder, Call.put(0, bad), -3);
        }
        Due.answer(decoder, Call.put(0, 12), 0);
    }

    private static void coefficientBelowZero() {
        for (int k = 1; k <= 3; k++) {
            for (int[] triple : Triples.belowZero(k)) {
                messageIsBad(k, triple);
            }
        }
    }

    private static void coefficientAboveTwelve() {
        for (int k = 1; k <= 3; k++) {
            for (int[] triple : Triples.aboveTwelve(k)) {
                messageIsBad(k, triple);
            }
        }
    }

    private static void messageTooLong() {
        for (int k = 1; k <= 2; k++) {
            for (int[] triple : Triples.tooLong(k)) {
                messageIsBad(k, triple);
            }
        }
    }

    private static void messageIsBad(int k, int[] triple) {
        ListDecoder decoder = new ListDecoder(4, k);
        decoder.decode(1);
        Due.answer(decoder, Call.find(triple[0], triple[1], triple[2]), -4);
        Due.answer(decoder, Call.write(triple[0], triple[1], triple[2], 15), -4);
    }

    private static void maskBelowZero() {
        for (int n = 4; n <= 13; n++) {
            ListDecoder decoder = new ListDecoder(n, 2);
            for (int bad : Numbers.BELOW_ZERO) {
                Due.answer(decoder, Call.write(1, 1, 0, bad), -5);
            }
            Due.answer(decoder, Call.write(1, 1, 0, 0), 0);
        }
    }

    private static void maskTooGreat() {
        for (int n = 4; n <= 13; n++) {
            ListDecoder decoder = new ListDecoder(n, 2);
            for (int bad : Numbers.from(1 << n)) {
                Due.answer(decoder, Call.write(1, 1, 0, bad), -5);
            }
            for (int bit = n; bit <= 30; bit++) {
                Due.answer(decoder, Call.write(1, 1, 0, 1 << bit), -5);
            }
            Due.answer(decoder, Call.write(1, 1, 0, (1 << n) - 1), n);
        }
    }

    private static void threshold() {
        ListDecoder decoder = new ListDecoder(13, 3);
        decoder.write(0, 0, 0, 8191);
        Due.answer(decoder, Call.decode(6), -6);
        Due.answer(decoder, Call.decode(7), 1);
        decoder.erase(0);
        decoder.erase(1);
        Due.answer(decoder, Call.decode(5), -6);
        Due.answer(decoder, Call.decode(6), 1);
    }

    private static void noList() {
        for (Situation situation : Situation.withoutList()) {
            Due.noList(situation.name(), situation.make());
        }
    }

    private static void indexBelowZero() {
        for (Situation situation : Situation.withList()) {
            for (int bad : Numbers.BELOW_ZERO) {
                indexIsBad(situation, bad);
            }
        }
    }

    private static void indexTooGreat() {
        for (Situation situation : Situation.withList()) {
            for (int bad : Numbers.from(situation.size())) {
                indexIsBad(situation, bad);
            }
        }
    }

    private static void indexIsBad(Situation situation, int index) {
        ListDecoder decoder = situation.make();
        Due.answer(decoder, Call.coefficient(index, 0), -8);
        Due.answer(decoder, Call.agreement(index), -8);
        Due.answer(decoder, Call.correct(index), -8);
    }

    private static void degreeBelowZero() {
        for (Situation situation : Situation.withEntries()) {
            ListDecoder decoder = situation.make();
            for (int bad : Numbers.BELOW_ZERO) {
                Due.answer(decoder, Call.coefficient(0, bad), -9);
            }
        }
    }

    private static void degreeTooGreat() {
        for (Situation situation : Situation.withEntries()) {
            ListDecoder decoder = situation.make();
            for (int bad : Numbers.from(situation.k())) {
                Due.answer(decoder, Call.coefficient(0, bad), -9);
            }
            int last = situation.k() - 1;
            Due.answer(decoder, Call.coefficient(0, last), situation.entries()[0][last]);
        }
    }
}
