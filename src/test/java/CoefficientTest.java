/** Promise 13: coefficient. */
final class CoefficientTest {
    public static void main(String[] args) {
        Due.sentence("coefficient(index, degree) is a getter", CoefficientTest::isAGetter);
        Due.sentence("Condition 1: without a list NO_LIST", CoefficientTest::noList);
        Due.sentence("Condition 2: an index below 0 gives BAD_INDEX", CoefficientTest::indexBelowZero);
        Due.sentence("Condition 2: an index not below the size gives BAD_INDEX", CoefficientTest::indexTooLarge);
        Due.sentence("For an empty list every index gives BAD_INDEX", CoefficientTest::emptyList);
        Due.sentence("Condition 3: a degree below 0 gives BAD_DEGREE", CoefficientTest::degreeBelowZero);
        Due.sentence("Condition 3: a degree above k-1 gives BAD_DEGREE", CoefficientTest::degreeTooLarge);
        Due.sentence("So for k = 1 only degree 0 is accepted", CoefficientTest::dimensionOne);
        Due.sentence("and for k = 2 only degrees 0 and 1", CoefficientTest::dimensionTwo);
        Due.sentence("Condition 3: for k = 3 the degrees 0, 1 and 2 are accepted", CoefficientTest::dimensionThree);
        Due.sentence("Conditions, in this order: list, then index", CoefficientTest::listBeforeIndex);
        Due.sentence("Conditions, in this order: list, then degree", CoefficientTest::listBeforeDegree);
        Due.sentence("Conditions, in this order: index, then degree", CoefficientTest::indexBeforeDegree);
        Due.sentence("It answers c0, c1 or c2 of that entry", CoefficientTest::everyMessage);
        Due.sentence("of that entry: the first and the last of a list of thirteen", CoefficientTest::thirteen);
        Due.end();
    }

    private static void isAGetter() {
        for (Situation situation : Situation.withEntries()) {
            for (int index = 0; index < situation.size(); index++) {
                for (int degree = 0; degree < situation.k(); degree++) {
                    Due.keeps(situation, Call.coefficient(index, degree), situation.entries()[index][degree]);
                }
            }
        }
    }

    private static void noList() {
        for (Situation situation : Situation.withoutList()) {
            for (int degree = 0; degree < situation.k(); degree++) {
                Due.keeps(situation, Call.coefficient(0, degree), ListDecoder.NO_LIST);
            }
        }
    }

    private static void indexBelowZero() {
        for (Situation situation : Situation.withList()) {
            for (int bad : Numbers.BELOW_ZERO) {
                Due.keeps(situation, Call.coefficient(bad, 0), ListDecoder.BAD_INDEX);
            }
        }
    }

    private static void indexTooLarge() {
        for (Situation situation : Situation.withList()) {
            for (int bad : Numbers.from(situation.size())) {
                Due.keeps(situation, Call.coefficient(bad, 0), ListDecoder.BAD_INDEX);
            }
        }
    }

    private static void emptyList() {
        for (Situation situation : Situation.withEmptyList()) {
            for (int index = -14; index <= 14; index++) {
                for (int degree = 0; degree < situation.k(); degree++) {
                    Due.keeps(situation, Call.coefficient(index, degree), ListDecoder.BAD_INDEX);
                }
            }
            Due.keeps(situation, Call.coefficient(Integer.MIN_VALUE, 0), ListDecoder.BAD_INDEX);
            Due.keeps(situation, Call.coefficient(Integer.MAX_VALUE, 0), ListDecoder.BAD_INDEX);
        }
    }

    private static void degreeBelowZero() {
        for (Situation situation : Situation.withEntries()) {
            for (int bad : Numbers.BELOW_ZERO) {
                Due.keeps(situation, Call.coefficient(situation.size() - 1, bad), ListDecoder.BAD_DEGREE);
            }
        }
    }

    private static void degreeTooLarge() {
        for (Situation situation : Situation.withEntries()) {
            for (int bad : Numbers.from(situation.k())) {
                Due.keeps(situation, Call.coefficient(situation.size() - 1, bad), ListDecoder.BAD_DEGREE);
            }
        }
    }

    private static void degrees(int k, int... answers) {
        ListDecoder decoder = new ListDecoder(5, k);
        decoder.write(10, k >= 2 ? 11 : 0, k >= 3 ? 12 : 0, 31);
        decoder.decode(5);
        for (int degree = -1; degree <= 3; degree++) {
            Due.answer(decoder, Call.coefficient(0, degree), answers[degree + 1]);
        }
    }

    private static void dimensionOne() {
        degrees(1, -9, 10, -9, -9, -9);
    }

    private static void dimensionTwo() {
        degrees(2, -9, 10, 11, -9, -9);
    }

    private static void dimensionThree() {
        degrees(3, -9, 10, 11, 12, -9);
    }

    private static void listBeforeIndex() {
        for (Situation situation : Situation.withoutList()) {
            for (int index : new int[] {Integer.MIN_VALUE, -1, 1, 13, Integer.MAX_VALUE}) {
                Due.keeps(situation, Call.coefficient(index, 0), ListDecoder.NO_LIST);
            }
        }
    }

    private static void listBeforeDegree() {
        for (Situation situation : Situation.withoutList()) {
            for (int degree : new int[] {Integer.MIN_VALUE, -1, situation.k(), Integer.MAX_VALUE}) {
                Due.keeps(situation, Call.coefficient(0, degree), ListDecoder.NO_LIST);
                Due.keeps(situation, Call.coefficient(-1, degree), ListDecoder.NO_LIST);
            }
        }
    }

    private static void indexBeforeDegree() {
        for (Situation situation : Situation.withList()) {
            for (int degree : new int[] {Integer.MIN_VALUE, -1, situation.k(), Integer.MAX_VALUE}) {
                Due.keeps(situation, Call.coefficient(-1, degree), ListDecoder.BAD_INDEX);
                Due.keeps(situation, Call.coefficient(situation.size(), degree), ListDecoder.BAD_INDEX);
            }
        }
    }

    private static void everyMessage() {
        for (int k = 1; k <= 3; k++) {
            ListDecoder decoder = new ListDecoder(4, k);
            for (int[] message : Triples.messages(k)) {
                decoder.write(message[0], message[1], message[2], 15);
                Due.answer(decoder, Call.decode(4), 1);
                for (int degree = 0; degree < k; degree++) {
                    Due.answer(decoder, Call.coefficient(0, degree), message[degree]);
                }
            }
        }
    }

    private static void thirteen() {
        ListDecoder decoder = Situation.thirteenEntries().make();
        Due.answer(decoder, Call.coefficient(0, 0), 0);
        Due.answer(decoder, Call.coefficient(12, 0), 12);
        Due.answer(decoder, Call.coefficient(13, 0), ListDecoder.BAD_INDEX);
    }
}
