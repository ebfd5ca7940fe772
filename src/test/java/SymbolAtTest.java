/** Promise 8: symbolAt. */
final class SymbolAtTest {
    public static void main(String[] args) {
        Due.sentence("symbolAt(position) is a getter", SymbolAtTest::isAGetter);
        Due.sentence("Condition: a position below 0 gives BAD_POSITION", SymbolAtTest::positionBelowZero);
        Due.sentence("Condition: a position above n-1 gives BAD_POSITION", SymbolAtTest::positionTooLarge);
        Due.sentence("It answers the symbol at the position, in 0..12", SymbolAtTest::answersTheSymbol);
        Due.sentence("or NONE if the position is erased", SymbolAtTest::answersNone);
        Due.end();
    }

    private static void isAGetter() {
        for (Situation situation : Situation.all()) {
            for (int x = 0; x < situation.n(); x++) {
                Due.keeps(situation, Call.symbolAt(x), situation.word()[x]);
            }
        }
    }

    private static void positionBelowZero() {
        for (Situation situation : Situation.all()) {
            for (int bad : Numbers.BELOW_ZERO) {
                Due.keeps(situation, Call.symbolAt(bad), ListDecoder.BAD_POSITION);
            }
        }
    }

    private static void positionTooLarge() {
        for (Situation situation : Situation.all()) {
            for (int bad : Numbers.from(situation.n())) {
                Due.keeps(situation, Call.symbolAt(bad), ListDecoder.BAD_POSITION);
            }
        }
    }

    private static void answersTheSymbol() {
        for (int n = 4; n <= 13; n++) {
            ListDecoder decoder = new ListDecoder(n, 1);
            for (int x = 0; x < n; x++) {
                for (int symbol = 0; symbol <= 12; symbol++) {
                    decoder.put(x, symbol);
                    Due.answer(decoder, Call.symbolAt(x), symbol);
                }
            }
        }
    }

    private static void answersNone() {
        for (int n = 4; n <= 13; n++) {
            ListDecoder decoder = new ListDecoder(n, 1);
            for (int x = 0; x < n; x++) {
                Due.answer(decoder, Call.symbolAt(x), ListDecoder.NONE);
                decoder.put(x, 0);
                decoder.erase(x);
                Due.answer(decoder, Call.symbolAt(x), ListDecoder.NONE);
            }
        }
    }
}
