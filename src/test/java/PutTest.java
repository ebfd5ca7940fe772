/** Promise 4: put. */
final class PutTest {
    public static void main(String[] args) {
        Due.sentence("Condition 1: a position below 0 gives BAD_POSITION", PutTest::positionBelowZero);
        Due.sentence("Condition 1: a position above n-1 gives BAD_POSITION", PutTest::positionTooLarge);
        Due.sentence("Condition 2: a symbol below 0 gives BAD_SYMBOL", PutTest::symbolBelowZero);
        Due.sentence("Condition 2: a symbol above 12 gives BAD_SYMBOL", PutTest::symbolTooLarge);
        Due.sentence("Conditions, in this order: position, then symbol", PutTest::positionComesFirst);
        Due.sentence("If accepted, the position holds the symbol", PutTest::everySymbolEverywhere);
        Due.sentence("whatever it held before: another symbol", PutTest::onAnotherSymbol);
        Due.sentence("whatever it held before: the same symbol", PutTest::onTheSameSymbol);
        Due.sentence("whatever it held before: erased", PutTest::onAnErasedPosition);
        Due.sentence("There is no list any more", PutTest::takesTheList);
        Due.sentence("even if the position held that symbol already", PutTest::takesTheListWithTheSameSymbol);
        Due.sentence("The answer is OK", PutTest::answersOk);
        Due.sentence("All other positions stay as they are", PutTest::otherPositionsStay);
        Due.sentence("m grows by one if the position was erased", PutTest::receivedGrows);
        Due.sentence("m stays otherwise", PutTest::receivedStays);
        Due.end();
    }

    private static void positionBelowZero() {
        for (Situation situation : Situation.all()) {
            for (int bad : Numbers.BELOW_ZERO) {
                Due.keeps(situation, Call.put(bad, 0), ListDecoder.BAD_POSITION);
                Due.keeps(situation, Call.put(bad, 12), ListDecoder.BAD_POSITION);
            }
        }
    }

    private static void positionTooLarge() {
        for (Situation situation : Situation.all()) {
            for (int bad : Numbers.from(situation.n())) {
                Due.keeps(situation, Call.put(bad, 0), ListDecoder.BAD_POSITION);
                Due.keeps(situation, Call.put(bad, 12), ListDecoder.BAD_POSITION);
            }
        }
    }

    private static void symbolBelowZero() {
        for (Situation situation : Situation.all()) {
            for (int bad : Numbers.BELOW_ZERO) {
                Due.keeps(situation, Call.put(0, bad), ListDecoder.BAD_SYMBOL);
                Due.keeps(situation, Call.put(situation.n() - 1, bad), ListDecoder.BAD_SYMBOL);
            }
        }
    }

    private static void symbolTooLarge() {
        for (Situation situation : Situation.all()) {
            for (int bad : Numbers.from(13)) {
                Due.keeps(situation, Call.put(0, bad), ListDecoder.BAD_SYMBOL);
                Due.keeps(situation, Call.put(situation.n() - 1, bad), ListDecoder.BAD_SYMBOL);
            }
        }
    }

    private static void positionComesFirst() {
        for (Situation situation : Situation.all()) {
            for (int symbol : new int[] {Integer.MIN_VALUE, -1, 13, Integer.MAX_VALUE}) {
                Due.keeps(situation, Call.put(-1, symbol), ListDecoder.BAD_POSITION);
                Due.keeps(situation, Call.put(situation.n(), symbol), ListDecoder.BAD_POSITION);
            }
        }
    }

    private static void everySymbolEverywhere() {
        for (int n = 4; n <= 13; n++) {
            for (int k = 1; k <= 3; k++) {
                ListDecoder decoder = new ListDecoder(n, k);
                for (int x = 0; x < n; x++) {
                    for (int symbol = 0; symbol <= 12; symbol++) {
                        Due.answer(decoder, Call.put(x, symbol), ListDecoder.OK);
                        Due.answer(decoder, Call.symbolAt(x), symbol);
                    }
                }
            }
        }
    }

    private static void onAnotherSymbol() {
        for (int before = 0; before <= 12; before++) {
            for (int step = 1; step <= 12; step++) {
                putAfterPut(before, (before + step) % 13);
            }
        }
    }

    private static void onTheSameSymbol() {
        for (int symbol = 0; symbol <= 12; symbol++) {
            putAfterPut(symbol, symbol);
        }
    }

    private static void putAfterPut(int before, int after) {
        ListDecoder decoder = new ListDecoder(5, 2);
        decoder.put(3, before);
        Due.answer(decoder, Call.put(3, after), ListDecoder.OK);
        Due.word("put of " + after + " on " + before, decoder, -1, -1, -1, after, -1);
    }

    private static void onAnErasedPosition() {
        for (int symbol = 0; symbol <= 12; symbol++) {
            ListDecoder fresh = new ListDecoder(5, 2);
            Due.answer(fresh, Call.put(3, symbol), ListDecoder.OK);
            Due.word("put on a position erased from the start", fresh, -1, -1, -1, symbol, -1);
            fresh.erase(3);
            Due.answer(fresh, Call.put(3, symbol), ListDecoder.OK);
            Due.word("put on a position erased by erase", fresh, -1, -1, -1, symbol, -1);
        }
    }

    private static void takesTheList() {
        for (Situation situation : Situation.withList()) {
            for (int x = 0; x < situation.n(); x++) {
                int symbol = (situation.word()[x] + 1) % 13;
                Due.takes(situation, Call.put(x, symbol), ListDecoder.OK, situation.wordWith(x, symbol));
            }
        }
    }

    private static void takesTheListWithTheSameSymbol() {
        for (Situation situation : Situation.withList()) {
            for (int x = 0; x < situation.n(); x++) {
                int symbol = situation.word()[x];
                if (symbol >= 0) {
                    Due.takes(situation, Call.put(x, symbol), ListDecoder.OK, situation.word());
                }
            }
        }
    }

    private static void answersOk() {
        for (Situation situation : Situation.all()) {
            ListDecoder decoder = situation.make();
            for (int x = 0; x < situation.n(); x++) {
                Due.answer(decoder, Call.put(x, 12 - x), ListDecoder.OK);
                Due.answer(decoder, Call.put(x, 0), ListDecoder.OK);
            }
        }
    }

    private static void otherPositionsStay() {
        for (Situation situation : Situation.all()) {
            for (int x = 0; x < situation.n(); x++) {
                for (int symbol : new int[] {0, 6, 12}) {
                    ListDecoder decoder = situation.make();
                    decoder.put(x, symbol);
                    Due.word("put(" + x + ", " + symbol + ")", decoder, situation.wordWith(x, symbol));
                }
            }
        }
    }

    private static void receivedGrows() {
        for (int n = 4; n <= 13; n++) {
            ListDecoder decoder = new ListDecoder(n, 1);
            for (int x = n - 1; x >= 0; x--) {
                decoder.put(x, 0);
                Due.answer(decoder, Call.received(), n - x);
            }
        }
    }

    private static void receivedStays() {
        for (int n = 4; n <= 13; n++) {
            ListDecoder decoder = new ListDecoder(n, 1);
            decoder.write(0, 0, 0, (1 << n) - 2);
            for (int x = 1; x < n; x++) {
                decoder.put(x, 0);
                Due.answer(decoder, Call.received(), n - 1);
                decoder.put(x, 12);
                Due.answer(decoder, Call.received(), n - 1);
            }
        }
    }
}
