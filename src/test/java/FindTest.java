/** Promise 15: find. */
final class FindTest {
    public static void main(String[] args) {
        Due.sentence("find(c0, c1, c2) is a getter", FindTest::isAGetter);
        Due.sentence("Condition 1: without a list NO_LIST", FindTest::noList);
        Due.sentence("Condition 2: some ci below 0 gives BAD_MESSAGE", FindTest::coefficientBelowZero);
        Due.sentence("Condition 2: some ci above 12 gives BAD_MESSAGE", FindTest::coefficientTooLarge);
        Due.sentence("Condition 2: some ci with i >= k that is not 0 gives BAD_MESSAGE", FindTest::tooLong);
        Due.sentence("This holds for an empty list too", FindTest::noMessageInAnEmptyList);
        Due.sentence("Conditions, in this order: list, then message", FindTest::listBeforeMessage);
        Due.sentence("It answers the index of the entry that equals the message", FindTest::answersTheIndex);
        Due.sentence("or NONE if there is none", FindTest::answersNone);
        Due.sentence("NONE if only some of the coefficients are equal", FindTest::partlyEqual);
        Due.sentence("For an empty list every message gives NONE", FindTest::emptyList);
        Due.end();
    }

    private static void isAGetter() {
        for (Situation situation : Situation.withEntries()) {
            for (int index = 0; index < situation.size(); index++) {
                int[] entry = situation.entries()[index];
                Due.keeps(situation, Call.find(entry[0], entry[1], entry[2]), index);
            }
        }
        for (Situation situation : Situation.all()) {
            Due.keeps(situation, Call.find(13, 0, 0),
                    situation.hasList() ? ListDecoder.BAD_MESSAGE : ListDecoder.NO_LIST);
        }
    }

    private static void noList() {
        for (Situation situation : Situation.withoutList()) {
            ListDecoder decoder = situation.make();
            for (int[] message : Triples.messages(situation.k())) {
                Due.answer(decoder, Call.find(message[0], message[1], message[2]), ListDecoder.NO_LIST);
            }
        }
    }

    private static void refused(Iterable<int[]> triples, Situation situation) {
        for (int[] triple : triples) {
            Due.keeps(situation, Call.find(triple[0], triple[1], triple[2]), ListDecoder.BAD_MESSAGE);
        }
    }

    private static void coefficientBelowZero() {
        for (Situation situation : Situation.withEntries()) {
            refused(Triples.belowZero(situation.k()), situation);
        }
    }

    private static void coefficientTooLarge() {
        for (Situation situation : Situation.withEntries()) {
            refused(Triples.aboveTwelve(situation.k()), situation);
        }
    }

    private static void tooLong() {
        for (Situation situation : Situation.withEntries()) {
            refused(Triples.tooLong(situation.k()), situation);
        }
    }

    private static void noMessageInAnEmptyList() {
        for (Situation situation : Situation.withEmptyList()) {
            refused(Triples.noMessages(situation.k()), situation);
        }
    }

    private static void listBeforeMessage() {
        for (Situation situation : Situation.withoutList()) {
            for (int[] triple : Triples.noMessages(situation.k())) {
                Due.keeps(situation, Call.find(triple[0], triple[1], triple[2]), ListDecoder.NO_LIST);
            }
        }
    }

    private static void answersTheIndex() {
        for (int k = 1; k <= 3; k++) {
            ListDecoder decoder = new ListDecoder(4, k);
            for (int[] message : Triples.messages(k)) {
                decoder.write(message[0], message[1], message[2], 15);
                decoder.decode(4);
                Due.answer(decoder, Call.find(message[0], message[1], message[2]), 0);
            }
        }
        ListDecoder thirteen = Situation.thirteenEntries().make();
        for (int c0 = 0; c0 <= 12; c0++) {
            Due.answer(thirteen, Call.find(c0, 0, 0), c0);
        }
    }

    /** Every message is looked for; those that are no entries must not be found. */
    private static void answersNone() {
        for (Situation situation : Situation.withEntries()) {
            ListDecoder decoder = situation.make();
            for (int[] message : Triples.messages(situation.k())) {
                Due.answer(decoder, Call.find(message[0], message[1], message[2]), indexOf(message, situation));
            }
        }
    }

    private static int indexOf(int[] message, Situation situation) {
        for (int i = 0; i < situation.size(); i++) {
            int[] entry = situation.entries()[i];
            if (entry[0] == message[0] && entry[1] == message[1] && entry[2] == message[2]) {
                return i;
            }
        }
        return ListDecoder.NONE;
    }

    private static void partlyEqual() {
        ListDecoder decoder = new ListDecoder(5, 3);
        decoder.write(10, 11, 12, 31);
        decoder.decode(5);
        Due.answer(decoder, Call.find(10, 11, 12), 0);
        Due.answer(decoder, Call.find(10, 11, 0), ListDecoder.NONE);
        Due.answer(decoder, Call.find(10, 0, 12), ListDecoder.NONE);
        Due.answer(decoder, Call.find(0, 11, 12), ListDecoder.NONE);
        Due.answer(decoder, Call.find(12, 11, 10), ListDecoder.NONE);
    }

    private static void emptyList() {
        for (Situation situation : Situation.withEmptyList()) {
            ListDecoder decoder = situation.make();
            for (int[] message : Triples.messages(situation.k())) {
                Due.answer(decoder, Call.find(message[0], message[1], message[2]), ListDecoder.NONE);
            }
        }
    }
}
