/** Promise 6: erase. */
final class EraseTest {
    public static void main(String[] args) {
        Due.sentence("Condition: a position below 0 gives BAD_POSITION", EraseTest::positionBelowZero);
        Due.sentence("Condition: a position above n-1 gives BAD_POSITION", EraseTest::positionTooLarge);
        Due.sentence("If accepted, the position is erased", EraseTest::erasesEveryPosition);
        Due.sentence("it may have been so before", EraseTest::onAnErasedPosition);
        Due.sentence("There is no list any more", EraseTest::takesTheList);
        Due.sentence("also if the position was erased already", EraseTest::takesTheListWithoutChange);
        Due.sentence("The answer is OK", EraseTest::answersOk);
        Due.sentence("All other positions stay as they are", EraseTest::otherPositionsStay);
        Due.sentence("m falls by one if the position held a symbol", EraseTest::receivedFalls);
        Due.sentence("m stays otherwise", EraseTest::receivedStays);
        Due.end();
    }

    private static void positionBelowZero() {
        for (Situation situation : Situation.all()) {
            for (int bad : Numbers.BELOW_ZERO) {
                Due.keeps(situation, Call.erase(bad), ListDecoder.BAD_POSITION);
            }
        }
    }

    private static void positionTooLarge() {
        for (Situation situation : Situation.all()) {
            for (int bad : Numbers.from(situation.n())) {
                Due.keeps(situation, Call.erase(bad), ListDecoder.BAD_POSITION);
            }
        }
    }

    private static void erasesEveryPosition() {
        for (int n = 4; n <= 13; n++) {
            for (int x = 0; x < n; x++) {
                for (int symbol = 0; symbol <= 12; symbol++) {
                    ListDecoder decoder = new ListDecoder(n, 1);
                    decoder.put(x, symbol);
                    Due.answer(decoder, Call.erase(x), ListDecoder.OK);
                    Due.answer(decoder, Call.symbolAt(x), ListDecoder.NONE);
                    Due.answer(decoder, Call.disturb(x, 1), ListDecoder.NONE);
                }
            }
        }
    }

    private static void onAnErasedPosition() {
        ListDecoder decoder = new ListDecoder(4, 2);
        decoder.put(1, 0);
        for (int round = 0; round < 3; round++) {
            Due.answer(decoder, Call.erase(2), ListDecoder.OK);
            Due.word("erase(2) on an erased position", decoder, -1, 0, -1, -1);
        }
    }

    private static void takesTheList() {
        for (Situation situation : Situation.withList()) {
            for (int x = 0; x < situation.n(); x++) {
                if (situation.word()[x] >= 0) {
                    Due.takes(situation, Call.erase(x), ListDecoder.OK, situation.wordWith(x, -1));
                }
            }
        }
    }

    private static void takesTheListWithoutChange() {
        for (Situation situation : Situation.withList()) {
            for (int x = 0; x < situation.n(); x++) {
                if (situation.word()[x] < 0) {
                    Due.takes(situation, Call.erase(x), ListDecoder.OK, situation.word());
                }
            }
        }
    }

    private static void answersOk() {
        for (Situation situation : Situation.all()) {
            ListDecoder decoder = situation.make();
            for (int x = 0; x < situation.n(); x++) {
                Due.answer(decoder, Call.erase(x), ListDecoder.OK);
                Due.answer(decoder, Call.erase(x), ListDecoder.OK);
            }
        }
    }

    private static void otherPositionsStay() {
        for (Situation situation : Situation.all()) {
            for (int x = 0; x < situation.n(); x++) {
                ListDecoder decoder = situation.make();
                decoder.erase(x);
                Due.word("erase(" + x + ")", decoder, situation.wordWith(x, -1));
            }
        }
    }

    private static void receivedFalls() {
        for (int n = 4; n <= 13; n++) {
            ListDecoder decoder = new ListDecoder(n, 1);
            decoder.write(0, 0, 0, (1 << n) - 1);
            for (int x = 0; x < n; x++) {
                decoder.erase(x);
                Due.answer(decoder, Call.received(), n - 1 - x);
            }
        }
    }

    private static void receivedStays() {
        for (int n = 4; n <= 13; n++) {
            ListDecoder decoder = new ListDecoder(n, 1);
            decoder.put(n - 1, 0);
            for (int x = 0; x < n - 1; x++) {
                decoder.erase(x);
                Due.answer(decoder, Call.received(), 1);
            }
        }
    }
}
