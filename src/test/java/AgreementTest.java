/** Promise 14: agreement. */
final class AgreementTest {
    public static void main(String[] args) {
        Due.sentence("agreement(index) is a getter", AgreementTest::isAGetter);
        Due.sentence("Condition 1: without a list NO_LIST", AgreementTest::noList);
        Due.sentence("Condition 2: an index below 0 gives BAD_INDEX", AgreementTest::indexBelowZero);
        Due.sentence("Condition 2: an index not below the size gives BAD_INDEX", AgreementTest::indexTooLarge);
        Due.sentence("For an empty list every index gives BAD_INDEX", AgreementTest::emptyList);
        Due.sentence("Conditions, in this order: list, then index", AgreementTest::listBeforeIndex);
        Due.sentence("It answers the agreement of that entry with the present word", AgreementTest::presentWord);
        Due.sentence("This is at least the threshold: just it", AgreementTest::justTheThreshold);
        Due.sentence("This is at least the threshold: more, if the entry agrees in more", AgreementTest::more);
        Due.sentence("and at most m: just m, though n is greater", AgreementTest::atMostReceived);
        Due.end();
    }

    private static void isAGetter() {
        for (Situation situation : Situation.withEntries()) {
            for (int index = 0; index < situation.size(); index++) {
                Due.keeps(situation, Call.agreement(index), situation.entries()[index][3]);
            }
        }
    }

    private static void noList() {
        for (Situation situation : Situation.withoutList()) {
            Due.keeps(situation, Call.agreement(0), ListDecoder.NO_LIST);
        }
    }

    private static void indexBelowZero() {
        for (Situation situation : Situation.withList()) {
            for (int bad : Numbers.BELOW_ZERO) {
                Due.keeps(situation, Call.agreement(bad), ListDecoder.BAD_INDEX);
            }
        }
    }

    private static void indexTooLarge() {
        for (Situation situation : Situation.withList()) {
            for (int bad : Numbers.from(situation.size())) {
                Due.keeps(situation, Call.agreement(bad), ListDecoder.BAD_INDEX);
            }
        }
    }

    private static void emptyList() {
        for (Situation situation : Situation.withEmptyList()) {
            for (int index = -14; index <= 14; index++) {
                Due.keeps(situation, Call.agreement(index), ListDecoder.BAD_INDEX);
            }
            Due.keeps(situation, Call.agreement(Integer.MIN_VALUE), ListDecoder.BAD_INDEX);
            Due.keeps(situation, Call.agreement(Integer.MAX_VALUE), ListDecoder.BAD_INDEX);
        }
    }

    private static void listBeforeIndex() {
        for (Situation situation : Situation.withoutList()) {
            for (int index : new int[] {Integer.MIN_VALUE, -1, 1, 13, Integer.MAX_VALUE}) {
                Due.keeps(situation, Call.agreement(index), ListDecoder.NO_LIST);
            }
        }
    }

    private static void presentWord() {
        ListDecoder decoder = new ListDecoder(10, 2);
        decoder.write(8, 2, 0, 31);
        decoder.write(1, 5, 0, 480);
        decoder.decode(4);
        Due.answer(decoder, Call.agreement(0), 4);
        Due.answer(decoder, Call.agreement(1), 5);
        decoder.disturb(0, 1);
        decoder.decode(4);
        Due.answer(decoder, Call.agreement(0), 4);
        Due.answer(decoder, Call.agreement(1), 4);
        decoder.put(9, 7);
        decoder.decode(5);
        Due.answer(decoder, Call.agreement(0), 5);
        Due.answer(decoder, Call.agreement(1), ListDecoder.BAD_INDEX);
    }

    private static void justTheThreshold() {
        for (int k = 1; k <= 3; k++) {
            for (int m = k + 1; m <= 13; m++) {
                ListDecoder decoder = new ListDecoder(13, k);
                decoder.write(1, 0, 0, (1 << m) - 1);
                decoder.decode(m);
                Due.answer(decoder, Call.agreement(0), m);
            }
        }
    }

    private static void more() {
        for (int k = 1; k <= 3; k++) {
            for (int m = k + 1; m <= 13; m++) {
                for (int threshold = Model.LOWEST[k - 1][m]; threshold < m; threshold++) {
                    ListDecoder decoder = new ListDecoder(13, k);
                    decoder.write(1, 0, 0, (1 << m) - 1);
                    decoder.decode(threshold);
                    Due.due("agreement(0) for m " + m + " and threshold " + threshold, decoder.agreement(0), m);
                }
            }
        }
    }

    private static void atMostReceived() {
        for (int n = 4; n <= 13; n++) {
            for (int m = 1; m <= n; m++) {
                ListDecoder decoder = new ListDecoder(n, 1);
                decoder.write(0, 0, 0, ((1 << m) - 1) << (n - m));
                decoder.decode(1);
                Due.answer(decoder, Call.size(), 1);
                Due.answer(decoder, Call.agreement(0), m);
            }
        }
    }
}
