/** Promise 17: correct. */
final class CorrectTest {
    public static void main(String[] args) {
        Due.sentence("Condition 1: without a list NO_LIST", CorrectTest::noList);
        Due.sentence("Condition 2: an index below 0 gives BAD_INDEX", CorrectTest::indexBelowZero);
        Due.sentence("Condition 2: an index not below the size gives BAD_INDEX", CorrectTest::indexTooLarge);
        Due.sentence("For an empty list every index gives BAD_INDEX, and the empty list stays",
                CorrectTest::emptyList);
        Due.sentence("Conditions, in this order: list, then index", CorrectTest::listBeforeIndex);
        Due.sentence("If accepted, every position holds the symbol of that entry's codeword", CorrectTest::codeword);
        Due.sentence("also an erased one", CorrectTest::erasedPositions);
        Due.sentence("So no position is erased any more and m = n", CorrectTest::receivedIsLength);
        Due.sentence("There is no list any more", CorrectTest::takesTheList);
        Due.sentence("also if no symbol changed", CorrectTest::takesTheListWithoutChange);
        Due.sentence("The answer is the number of positions that did not hold that symbol before",
                CorrectTest::countsChanges);
        Due.sentence("erased positions are counted", CorrectTest::countsErasedPositions);
        Due.sentence("This number is n minus the agreement the entry had before the call",
                CorrectTest::lengthMinusAgreement);
        Due.sentence("it is 0 if the word was already that codeword in all positions", CorrectTest::zero);
        Due.end();
    }

    private static void noList() {
        for (Situation situation : Situation.withoutList()) {
            Due.keeps(situation, Call.correct(0), ListDecoder.NO_LIST);
        }
    }

    private static void indexBelowZero() {
        for (Situation situation : Situation.withEntries()) {
            for (int bad : Numbers.BELOW_ZERO) {
                Due.keeps(situation, Call.correct(bad), ListDecoder.BAD_INDEX);
            }
        }
    }

    private static void indexTooLarge() {
        for (Situation situation : Situation.withEntries()) {
            for (int bad : Numbers.from(situation.size())) {
                Due.keeps(situation, Call.correct(bad), ListDecoder.BAD_INDEX);
            }
        }
    }

    private static void emptyList() {
        for (Situation situation : Situation.withEmptyList()) {
            for (int index = -14; index <= 14; index++) {
                Due.keeps(situation, Call.correct(index), ListDecoder.BAD_INDEX);
            }
            Due.keeps(situation, Call.correct(Integer.MIN_VALUE), ListDecoder.BAD_INDEX);
            Due.keeps(situation, Call.correct(Integer.MAX_VALUE), ListDecoder.BAD_INDEX);
        }
    }

    private static void listBeforeIndex() {
        for (Situation situation : Situation.withoutList()) {
            for (int index : new int[] {Integer.MIN_VALUE, -1, 1, 13, Integer.MAX_VALUE}) {
                Due.keeps(situation, Call.correct(index), ListDecoder.NO_LIST);
            }
        }
    }

    private static int[] codewordOf(int[] entry, int n) {
        int[] word = new int[n];
        for (int x = 0; x < n; x++) {
            word[x] = Math.floorMod(entry[0] + x * (entry[1] + x * entry[2]), 13);
        }
        return word;
    }

    private static void codeword() {
        ListDecoder decoder = new ListDecoder(10, 2);
        decoder.write(8, 2, 0, 31);
        decoder.write(1, 5, 0, 992);
        decoder.decode(5);
        Due.answer(decoder, Call.correct(0), 5);
        Due.word("correct(0)", decoder, 1, 6, 11, 3, 8, 0, 5, 10, 2, 7);
        decoder.write(8, 2, 0, 31);
        decoder.decode(5);
        Due.answer(decoder, Call.correct(1), 5);
        Due.word("correct(1)", decoder, 8, 10, 12, 1, 3, 5, 7, 9, 11, 0);
        ListDecoder three = new ListDecoder(13, 3);
        for (int[] message : Triples.messages(3)) {
            three.write(message[0], message[1], message[2], 8191);
            three.disturb(0, 1);
            three.erase(12);
            three.decode(11);
            Due.answer(three, Call.correct(0), 2);
            Due.word("correct of the disturbed codeword", three, codewordOf(message, 13));
        }
    }

    private static void erasedPositions() {
        for (int n = 4; n <= 13; n++) {
            for (int x = 0; x < n; x++) {
                ListDecoder decoder = new ListDecoder(n, 2);
                decoder.write(9, 4, 0, (1 << n) - 1);
                decoder.erase(x);
                decoder.decode(n - 1);
                decoder.correct(0);
                Due.word("correct with " + x + " erased", decoder, codewordOf(new int[] {9, 4, 0}, n));
            }
        }
    }

    private static void receivedIsLength() {
        for (int n = 4; n <= 13; n++) {
            for (int m = 1; m <= n; m++) {
                ListDecoder decoder = new ListDecoder(n, 1);
                decoder.write(0, 0, 0, (1 << m) - 1);
                decoder.decode(1);
                decoder.correct(0);
                Due.answer(decoder, Call.received(), n);
                for (int x = 0; x < n; x++) {
                    Due.answer(decoder, Call.symbolAt(x), 0);
                }
            }
        }
    }

    private static void takesTheList() {
        for (Situation situation : Situation.withEntries()) {
            for (int index = 0; index < situation.size(); index++) {
                int[] entry = situation.entries()[index];
                Due.takes(situation, Call.correct(index), situation.n() - entry[3],
                        codewordOf(entry, situation.n()));
            }
        }
    }

    private static void takesTheListWithoutChange() {
        for (int k = 1; k <= 3; k++) {
            ListDecoder decoder = new ListDecoder(7, k);
            decoder.write(3, 0, 0, 127);
            decoder.decode(7);
            Due.answer(decoder, Call.correct(0), 0);
            Due.word("correct of the codeword", decoder, 3, 3, 3, 3, 3, 3, 3);
            Due.noList("correct of the codeword", decoder);
        }
    }

    private static void countsChanges() {
        for (int wrong = 0; wrong <= 6; wrong++) {
            ListDecoder decoder = new ListDecoder(13, 3);
            decoder.write(4, 9, 2, 8191);
            for (int x = 0; x < wrong; x++) {
                decoder.disturb(12 - x, 1 << x);
            }
            decoder.decode(7);
            int index = decoder.find(4, 9, 2);
            Due.due("correct with " + wrong + " wrong symbols", decoder.correct(index), wrong);
        }
    }

    private static void countsErasedPositions() {
        for (int erased = 0; erased <= 9; erased++) {
            ListDecoder decoder = new ListDecoder(13, 3);
            decoder.write(4, 9, 2, 8191);
            for (int x = 0; x < erased; x++) {
                decoder.erase(x);
            }
            decoder.decode(13 - erased);
            Due.due("correct with " + erased + " erased positions", decoder.correct(0), erased);
        }
        ListDecoder zeros = new ListDecoder(6, 1);
        zeros.put(5, 0);
        zeros.decode(1);
        Due.due("correct to zeros with five erased positions", zeros.correct(0), 5);
    }

    private static void lengthMinusAgreement() {
        for (int wrong = 0; wrong <= 3; wrong++) {
            for (int erased = 0; erased <= 3; erased++) {
                ListDecoder decoder = new ListDecoder(13, 2);
                decoder.write(4, 9, 0, 8191);
                for (int x = 0; x < wrong; x++) {
                    decoder.disturb(x, 1 << x);
                }
                for (int x = 0; x < erased; x++) {
                    decoder.erase(12 - x);
                }
                decoder.decode(5);
                int index = decoder.find(4, 9, 0);
                Due.answer(decoder, Call.agreement(index), 13 - wrong - erased);
                Due.answer(decoder, Call.correct(index), wrong + erased);
            }
        }
    }

    private static void zero() {
        for (int k = 1; k <= 3; k++) {
            for (int n = 4; n <= 13; n++) {
                ListDecoder decoder = new ListDecoder(n, k);
                int[] entry = {12, k >= 2 ? 12 : 0, k >= 3 ? 12 : 0};
                decoder.write(entry[0], entry[1], entry[2], (1 << n) - 1);
                decoder.decode(n);
                Due.answer(decoder, Call.correct(0), 0);
                Due.word("correct of the codeword", decoder, codewordOf(entry, n));
            }
        }
    }
}
