/** Promise 11: decode. */
final class DecodeTest {
    public static void main(String[] args) {
        Due.sentence("Condition: a threshold below the lowest gives BAD_THRESHOLD", DecodeTest::belowTheLowest);
        Due.sentence("and a list that was there stays", DecodeTest::refusedKeepsTheList);
        Due.sentence("Zero is always refused", DecodeTest::zero);
        Due.sentence("All negative thresholds are always refused", DecodeTest::negative);
        Due.sentence("The lowest threshold itself is accepted", DecodeTest::theLowest);
        Due.sentence("A threshold above m is accepted and gives an empty list", DecodeTest::aboveReceived);
        Due.sentence("up to the greatest int", DecodeTest::theGreatest);
        Due.sentence("With m = 0 every accepted threshold gives an empty list", DecodeTest::erasedWord);
        Due.sentence("The messages whose agreement is at least the threshold: exactly it", DecodeTest::exactly);
        Due.sentence("The messages whose agreement is at least the threshold: one less", DecodeTest::oneLess);
        Due.sentence("exactly those messages, each once, in the order stated", DecodeTest::exactlyThose);
        Due.sentence("with the present word", DecodeTest::presentWord);
        Due.sentence("in place of any list, whatever threshold that one had: higher", DecodeTest::afterHigher);
        Due.sentence("in place of any list, whatever threshold that one had: lower", DecodeTest::afterLower);
        Due.sentence("in place of any list, whatever threshold that one had: the same", DecodeTest::afterTheSame);
        Due.sentence("The word stays as it is, and so does m", DecodeTest::wordStays);
        Due.sentence("The answer is the number of entries", DecodeTest::answersTheSize);
        Due.sentence("0 if the list is empty; an empty list is a list", DecodeTest::emptyList);
        Due.end();
    }

    private static int lowest(Situation situation) {
        return Model.LOWEST[situation.k() - 1][Due.held(situation.word())];
    }

    private static void belowTheLowest() {
        for (int k = 1; k <= 3; k++) {
            for (int n = 4; n <= 13; n++) {
                for (int m = 0; m <= n; m++) {
                    ListDecoder decoder = new ListDecoder(n, k);
                    decoder.write(12, 0, 0, (1 << m) - 1);
                    for (int threshold = -1; threshold < Model.LOWEST[k - 1][m]; threshold++) {
                        Due.answer(decoder, Call.decode(threshold), ListDecoder.BAD_THRESHOLD);
                        Due.answer(decoder, Call.size(), ListDecoder.NO_LIST);
                    }
                }
            }
        }
    }

    private static void refusedKeepsTheList() {
        for (Situation situation : Situation.withList()) {
            for (int threshold = -1; threshold < lowest(situation); threshold++) {
                Due.keeps(situation, Call.decode(threshold), ListDecoder.BAD_THRESHOLD);
            }
        }
    }

    private static void zero() {
        for (Situation situation : Situation.all()) {
            Due.keeps(situation, Call.decode(0), ListDecoder.BAD_THRESHOLD);
        }
    }

    private static void negative() {
        for (Situation situation : Situation.all()) {
            for (int threshold : Numbers.BELOW_ZERO) {
                Due.keeps(situation, Call.decode(threshold), ListDecoder.BAD_THRESHOLD);
            }
        }
    }

    private static void theLowest() {
        for (int k = 1; k <= 3; k++) {
            for (int n = 4; n <= 13; n++) {
                for (int m = 0; m <= n; m++) {
                    ListDecoder decoder = new ListDecoder(n, k);
                    decoder.write(12, 0, 0, (1 << m) - 1);
                    int lowest = Model.LOWEST[k - 1][m];
                    Due.answer(decoder, Call.decode(lowest), m >= lowest ? 1 : 0);
                    Due.answer(decoder, Call.size(), m >= lowest ? 1 : 0);
                }
            }
        }
    }

    private static void aboveReceived() {
        for (Situation situation : Situation.all()) {
            int m = Due.held(situation.word());
            for (int threshold = Math.max(m + 1, lowest(situation)); threshold <= 15; threshold++) {
                ListDecoder decoder = situation.make();
                Due.answer(decoder, Call.decode(threshold), 0);
                Due.list("decode(" + threshold + ") on " + situation.name(), decoder);
                Due.word("decode(" + threshold + ") on " + situation.name(), decoder, situation.word());
            }
        }
    }

    private static void theGreatest() {
        for (Situation situation : Situation.all()) {
            for (int threshold : new int[] {256, 65536, 65537, 1 << 30, Integer.MAX_VALUE - 1, Integer.MAX_VALUE}) {
                ListDecoder decoder = situation.make();
                Due.answer(decoder, Call.decode(threshold), 0);
                Due.list("decode(" + threshold + ") on " + situation.name(), decoder);
                Due.word("decode(" + threshold + ") on " + situation.name(), decoder, situation.word());
            }
        }
    }

    private static void erasedWord() {
        for (int k = 1; k <= 3; k++) {
            for (int n = 4; n <= 13; n++) {
                ListDecoder decoder = new ListDecoder(n, k);
                for (int threshold : new int[] {1, 2, 3, 4, 7, n, n + 1, Integer.MAX_VALUE}) {
                    Due.answer(decoder, Call.decode(threshold), 0);
                    Due.list("decode(" + threshold + ") of the erased word", decoder);
                }
                decoder.write(1, 0, 0, 15);
                for (int x = 0; x < 4; x++) {
                    decoder.erase(x);
                }
                Due.answer(decoder, Call.decode(1), 0);
                Due.list("decode(1) of a word become erased", decoder);
            }
        }
    }

    /** A codeword with some positions disturbed has just the others as its agreement. */
    private static void exactly() {
        for (int k = 1; k <= 3; k++) {
            for (int agreed = 7; agreed <= 13; agreed++) {
                ListDecoder decoder = disturbed(k, agreed);
                Due.answer(decoder, Call.decode(agreed), 1);
                Due.list("decode(" + agreed + ")", decoder,
                        new int[] {4, k >= 2 ? 9 : 0, k >= 3 ? 2 : 0, agreed});
            }
        }
    }

    private static void oneLess() {
        for (int k = 1; k <= 3; k++) {
            for (int agreed = 7; agreed <= 13; agreed++) {
                ListDecoder decoder = disturbed(k, agreed);
                Due.answer(decoder, Call.decode(agreed + 1), 0);
                Due.list("decode(" + (agreed + 1) + ")", decoder);
            }
        }
    }

    /** The deltas 1, 2, 4, 8, 16, 32 lie on no line or parabola, so no other message agrees in 7 positions. */
    private static ListDecoder disturbed(int k, int agreed) {
        ListDecoder decoder = new ListDecoder(13, k);
        decoder.write(4, k >= 2 ? 9 : 0, k >= 3 ? 2 : 0, 8191);
        for (int x = agreed; x < 13; x++) {
            decoder.disturb(x, 1 << (x - agreed));
        }
        return decoder;
    }

    /** Words made of pieces of several codewords, so that there are lists of many sizes; all thresholds. */
    private static void exactlyThose() {
        long state = 11;
        for (int round = 0; round < 1500; round++) {
            int k = 1 + round % 3;
            int n = 4 + round / 3 % 10;
            ListDecoder decoder = new ListDecoder(n, k);
            Model model = new Model(n, k);
            for (int piece = 0; piece < 4; piece++) {
                state = state * 6364136223846793005L + 1442695040888963407L;
                int bits = (int) (state >>> 34);
                int mask = (bits >>> 12) % (1 << n);
                int c0 = bits % 13;
                int c1 = k >= 2 ? bits / 13 % 13 : 0;
                int c2 = k >= 3 ? bits / 169 % 13 : 0;
                Due.answer(decoder, Call.write(c0, c1, c2, mask), model.write(c0, c1, c2, mask));
            }
            for (int threshold = model.lowestThreshold(); threshold <= n + 1; threshold++) {
                Due.answer(decoder, Call.decode(threshold), model.decode(threshold));
                Due.list("decode(" + threshold + ") in round " + round, decoder, model.list.toArray(new int[0][]));
            }
        }
    }

    private static void presentWord() {
        ListDecoder decoder = new ListDecoder(5, 1);
        decoder.write(3, 0, 0, 31);
        decoder.decode(1);
        decoder.put(0, 9);
        Due.answer(decoder, Call.decode(1), 2);
        Due.list("after put", decoder, new int[] {3, 0, 0, 4}, new int[] {9, 0, 0, 1});
        decoder.disturb(1, 6);
        Due.answer(decoder, Call.decode(1), 2);
        Due.list("after disturb", decoder, new int[] {3, 0, 0, 3}, new int[] {9, 0, 0, 2});
        decoder.erase(4);
        Due.answer(decoder, Call.decode(1), 2);
        Due.list("after erase", decoder, new int[] {3, 0, 0, 2}, new int[] {9, 0, 0, 2});
        decoder.write(0, 0, 0, 12);
        Due.answer(decoder, Call.decode(1), 2);
        Due.list("after write", decoder, new int[] {0, 0, 0, 2}, new int[] {9, 0, 0, 2});
        decoder.correct(1);
        Due.answer(decoder, Call.decode(1), 1);
        Due.list("after correct", decoder, new int[] {9, 0, 0, 5});
    }

    /** Length 7: 2 stands once, 5 twice and 11 four times. */
    private static ListDecoder oneTwoFour() {
        ListDecoder decoder = new ListDecoder(7, 1);
        decoder.write(11, 0, 0, 15);
        decoder.write(5, 0, 0, 48);
        decoder.write(2, 0, 0, 64);
        return decoder;
    }

    private static void list(ListDecoder decoder, int threshold) {
        int[][][] lists = {{{2, 0, 0, 1}, {5, 0, 0, 2}, {11, 0, 0, 4}}, {{5, 0, 0, 2}, {11, 0, 0, 4}},
            {{11, 0, 0, 4}}, {{11, 0, 0, 4}}, {}};
        int[][] due = lists[threshold - 1];
        Due.answer(decoder, Call.decode(threshold), due.length);
        Due.list("decode(" + threshold + ")", decoder, due);
        for (int c0 : new int[] {2, 5, 11}) {
            int index = ListDecoder.NONE;
            for (int i = 0; i < due.length; i++) {
                index = due[i][0] == c0 ? i : index;
            }
            Due.answer(decoder, Call.find(c0, 0, 0), index);
        }
    }

    private static void afterHigher() {
        ListDecoder decoder = oneTwoFour();
        for (int threshold = 5; threshold >= 1; threshold--) {
            list(decoder, threshold);
        }
        list(decoder, 5);
        list(decoder, 1);
    }

    private static void afterLower() {
        ListDecoder decoder = oneTwoFour();
        for (int threshold = 1; threshold <= 5; threshold++) {
            list(decoder, threshold);
        }
    }

    private static void afterTheSame() {
        for (int threshold = 1; threshold <= 5; threshold++) {
            ListDecoder decoder = oneTwoFour();
            list(decoder, threshold);
            list(decoder, threshold);
            list(decoder, threshold);
        }
    }

    private static void wordStays() {
        for (Situation situation : Situation.all()) {
            ListDecoder decoder = situation.make();
            for (int threshold = 0; threshold <= 14; threshold++) {
                decoder.decode(threshold);
                Due.word("decode(" + threshold + ") on " + situation.name(), decoder, situation.word());
            }
        }
    }

    private static void answersTheSize() {
        ListDecoder decoder = new ListDecoder(13, 1);
        for (int count = 1; count <= 13; count++) {
            decoder.put(count - 1, 13 - count);
            Due.answer(decoder, Call.decode(1), count);
            Due.answer(decoder, Call.size(), count);
        }
    }

    private static void emptyList() {
        for (Situation situation : Situation.withoutList()) {
            ListDecoder decoder = situation.make();
            Due.answer(decoder, Call.decode(14), 0);
            Due.answer(decoder, Call.size(), 0);
            Due.answer(decoder, Call.best(), ListDecoder.NONE);
            Due.answer(decoder, Call.find(0, 0, 0), ListDecoder.NONE);
            Due.answer(decoder, Call.agreement(0), ListDecoder.BAD_INDEX);
            Due.answer(decoder, Call.coefficient(0, 0), ListDecoder.BAD_INDEX);
            Due.answer(decoder, Call.correct(0), ListDecoder.BAD_INDEX);
        }
    }
}
