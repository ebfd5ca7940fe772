/** Promise 7: write. */
final class WriteTest {
    public static void main(String[] args) {
        Due.sentence("Condition 1: some ci below 0 gives BAD_MESSAGE", WriteTest::coefficientBelowZero);
        Due.sentence("Condition 1: some ci above 12 gives BAD_MESSAGE", WriteTest::coefficientTooLarge);
        Due.sentence("Condition 1: some ci with i >= k that is not 0 gives BAD_MESSAGE", WriteTest::tooLong);
        Due.sentence("Condition 1: every message is accepted", WriteTest::everyMessage);
        Due.sentence("Condition 2: a mask below 0 gives BAD_MASK", WriteTest::maskBelowZero);
        Due.sentence("Condition 2: a mask above 2^n - 1 gives BAD_MASK", WriteTest::maskTooLarge);
        Due.sentence("Condition 2: every mask in 0 .. 2^n - 1 is accepted", WriteTest::everyMask);
        Due.sentence("Conditions, in this order: message, then mask", WriteTest::messageComesFirst);
        Due.sentence("Every position whose bit is 1 holds the codeword's symbol", WriteTest::everyCodeword);
        Due.sentence("bit 0 is worth 1, bit x is worth 2^x", WriteTest::bitsTellPositions);
        Due.sentence("whatever it held before", WriteTest::onHeldPositions);
        Due.sentence("also if it was erased", WriteTest::onErasedPositions);
        Due.sentence("The other positions stay as they are", WriteTest::otherPositionsStay);
        Due.sentence("erased ones included", WriteTest::otherErasedPositionsStay);
        Due.sentence("There is no list any more", WriteTest::takesTheList);
        Due.sentence("also if mask = 0", WriteTest::takesTheListWithMaskZero);
        Due.sentence("also if no symbol changed", WriteTest::takesTheListWithoutChange);
        Due.sentence("The answer is the number of bits of mask that are 1, from 0 to n", WriteTest::answersTheBits);
        Due.sentence("m grows by the number of written positions that were erased before", WriteTest::receivedGrows);
        Due.end();
    }

    private static void refused(Iterable<int[]> triples, Situation situation) {
        for (int[] triple : triples) {
            Due.keeps(situation, Call.write(triple[0], triple[1], triple[2], 0), ListDecoder.BAD_MESSAGE);
            Due.keeps(situation, Call.write(triple[0], triple[1], triple[2], 15), ListDecoder.BAD_MESSAGE);
        }
    }

    private static void coefficientBelowZero() {
        for (Situation situation : Situation.all()) {
            refused(Triples.belowZero(situation.k()), situation);
        }
    }

    private static void coefficientTooLarge() {
        for (Situation situation : Situation.all()) {
            refused(Triples.aboveTwelve(situation.k()), situation);
        }
    }

    private static void tooLong() {
        for (Situation situation : Situation.all()) {
            refused(Triples.tooLong(situation.k()), situation);
        }
    }

    private static void everyMessage() {
        for (int k = 1; k <= 3; k++) {
            ListDecoder decoder = new ListDecoder(4, k);
            for (int[] message : Triples.messages(k)) {
                Due.answer(decoder, Call.write(message[0], message[1], message[2], 0), 0);
                Due.answer(decoder, Call.write(message[0], message[1], message[2], 15), 4);
            }
        }
    }

    private static void maskBelowZero() {
        for (Situation situation : Situation.all()) {
            for (int bad : Numbers.BELOW_ZERO) {
                Due.keeps(situation, Call.write(12, 0, 0, bad), ListDecoder.BAD_MASK);
            }
            for (int bits = 1; bits < 16; bits++) {
                Due.keeps(situation, Call.write(12, 0, 0, Integer.MIN_VALUE + bits), ListDecoder.BAD_MASK);
            }
        }
    }

    private static void maskTooLarge() {
        for (Situation situation : Situation.all()) {
            int bound = 1 << situation.n();
            for (int bad : Numbers.from(bound)) {
                Due.keeps(situation, Call.write(12, 0, 0, bad), ListDecoder.BAD_MASK);
            }
            for (int bit = situation.n(); bit <= 30; bit++) {
                Due.keeps(situation, Call.write(12, 0, 0, 1 << bit), ListDecoder.BAD_MASK);
                Due.keeps(situation, Call.write(12, 0, 0, (1 << bit) + bound - 1), ListDecoder.BAD_MASK);
            }
        }
    }

    private static void everyMask() {
        for (int n = 4; n <= 13; n++) {
            ListDecoder decoder = new ListDecoder(n, 1);
            for (int mask = 0; mask < 1 << n; mask++) {
                Due.answer(decoder, Call.write(0, 0, 0, mask), Integer.bitCount(mask));
            }
        }
    }

    private static void messageComesFirst() {
        for (Situation situation : Situation.all()) {
            for (int mask : new int[] {Integer.MIN_VALUE, -1, 1 << situation.n(), Integer.MAX_VALUE}) {
                for (int[] triple : Triples.noMessages(situation.k())) {
                    Due.keeps(situation, Call.write(triple[0], triple[1], triple[2], mask), ListDecoder.BAD_MESSAGE);
                }
            }
        }
    }

    private static void everyCodeword() {
        for (int k = 1; k <= 3; k++) {
            ListDecoder decoder = new ListDecoder(13, k);
            for (int[] message : Triples.messages(k)) {
                Due.answer(decoder, Call.write(message[0], message[1], message[2], 8191), 13);
                for (int x = 0; x < 13; x++) {
                    Due.due("symbolAt(" + x + ") of " + java.util.Arrays.toString(message), decoder.symbolAt(x),
                            Math.floorMod(message[0] + x * (message[1] + x * message[2]), 13));
                }
            }
        }
    }

    private static void bitsTellPositions() {
        for (int n = 4; n <= 13; n++) {
            int worth = 1;
            for (int x = 0; x < n; x++) {
                ListDecoder decoder = new ListDecoder(n, 2);
                Due.answer(decoder, Call.write(3, 1, 0, worth), 1);
                int[] word = new int[n];
                java.util.Arrays.fill(word, -1);
                word[x] = (3 + x) % 13;
                Due.word("mask " + worth, decoder, word);
                worth = worth * 2;
            }
        }
    }

    private static void onHeldPositions() {
        for (int symbol = 0; symbol <= 12; symbol++) {
            ListDecoder decoder = new ListDecoder(4, 2);
            decoder.write(symbol, 0, 0, 15);
            Due.answer(decoder, Call.write(12, 12, 0, 6), 2);
            Due.word("write on " + symbol, decoder, symbol, 11, 10, symbol);
        }
    }

    private static void onErasedPositions() {
        ListDecoder decoder = new ListDecoder(4, 3);
        Due.answer(decoder, Call.write(12, 12, 12, 6), 2);
        Due.word("write on the erased word", decoder, -1, 10, 6, -1);
        Due.answer(decoder, Call.write(0, 0, 0, 9), 2);
        Due.word("write on erased ends", decoder, 0, 10, 6, 0);
    }

    private static void otherPositionsStay() {
        for (Situation situation : Situation.all()) {
            for (int mask : new int[] {0, 1, 6, 9, 15, 1 << (situation.n() - 1)}) {
                ListDecoder decoder = situation.make();
                decoder.write(6, 0, 0, mask);
                int[] word = situation.word().clone();
                for (int x = 0; x < situation.n(); x++) {
                    if (Integer.toBinaryString(mask | 1 << 20).charAt(20 - x) == '1') {
                        word[x] = 6;
                    }
                }
                Due.word("write with mask " + mask + " on " + situation.name(), decoder, word);
            }
        }
    }

    private static void otherErasedPositionsStay() {
        ListDecoder decoder = new ListDecoder(6, 1);
        Due.answer(decoder, Call.write(0, 0, 0, 0), 0);
        Due.word("mask 0 on the erased word", decoder, -1, -1, -1, -1, -1, -1);
        Due.answer(decoder, Call.write(0, 0, 0, 4), 1);
        Due.word("mask 4 on the erased word", decoder, -1, -1, 0, -1, -1, -1);
        Due.answer(decoder, Call.write(12, 0, 0, 40), 2);
        Due.word("mask 40 after it", decoder, -1, -1, 0, 12, -1, 12);
    }

    private static void takesTheList() {
        for (Situation situation : Situation.withList()) {
            int[] word = situation.word().clone();
            word[0] = 6;
            word[3] = 6;
            Due.takes(situation, Call.write(6, 0, 0, 9), 2, word);
        }
    }

    private static void takesTheListWithMaskZero() {
        for (Situation situation : Situation.withList()) {
            Due.takes(situation, Call.write(6, 0, 0, 0), 0, situation.word());
            Due.takes(situation, Call.write(0, 0, 0, 0), 0, situation.word());
        }
    }

    /** Each position that is held gets the symbol that it holds. */
    private static void takesTheListWithoutChange() {
        for (Situation situation : Situation.withList()) {
            for (int x = 0; x < situation.n(); x++) {
                int symbol = situation.word()[x];
                if (symbol >= 0) {
                    Due.takes(situation, Call.write(symbol, 0, 0, 1 << x), 1, situation.word());
                }
            }
        }
        Situation whole = new Situation("a codeword", 4, 2, new int[] {5, 3, 1, 12}, new int[][] {{5, 11, 0, 4}},
                Call.write(5, 11, 0, 15), Call.decode(4));
        Due.takes(whole, Call.write(5, 11, 0, 15), 4, 5, 3, 1, 12);
    }

    private static void answersTheBits() {
        for (int n = 4; n <= 13; n++) {
            for (int count = 0; count <= n; count++) {
                ListDecoder decoder = new ListDecoder(n, 3);
                int mask = (1 << count) - 1;
                Due.answer(decoder, Call.write(1, 2, 3, mask), count);
                Due.answer(decoder, Call.write(1, 2, 3, mask), count);
                Due.answer(decoder, Call.write(4, 5, 6, mask << (n - count)), count);
            }
        }
    }

    private static void receivedGrows() {
        ListDecoder decoder = new ListDecoder(8, 2);
        int[][] steps = {{3, 2}, {3, 2}, {6, 3}, {0, 3}, {129, 4}, {255, 8}, {255, 8}};
        for (int[] step : steps) {
            decoder.write(0, 0, 0, step[0]);
            Due.due("received() after mask " + step[0], decoder.received(), step[1]);
        }
        for (int mask = 0; mask < 256; mask++) {
            ListDecoder other = new ListDecoder(8, 2);
            other.write(0, 0, 0, 102);
            other.write(0, 1, 0, mask);
            Due.due("received() after masks 102 and " + mask, other.received(), Integer.bitCount(mask | 102));
        }
    }
}
