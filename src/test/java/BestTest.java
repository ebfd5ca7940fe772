/** Promise 16: best. */
final class BestTest {
    public static void main(String[] args) {
        Due.sentence("best() is a getter", BestTest::isAGetter);
        Due.sentence("Condition: without a list NO_LIST", BestTest::noList);
        Due.sentence("It answers the index of the entry with the greatest agreement", BestTest::everyIndex);
        Due.sentence("the least such index if several entries have it", BestTest::leastOfSeveral);
        Due.sentence("the least such index if all entries have it", BestTest::leastOfAll);
        Due.sentence("or NONE if the list is empty", BestTest::emptyList);
        Due.end();
    }

    private static void isAGetter() {
        for (Situation situation : Situation.all()) {
            boolean secondOfTwo = situation.size() == 2 && situation.entries()[1][3] > situation.entries()[0][3];
            int due = situation.size() == 0 ? ListDecoder.NONE : secondOfTwo ? 1 : 0;
            Due.keeps(situation, Call.best(), situation.hasList() ? due : ListDecoder.NO_LIST);
        }
    }

    private static void noList() {
        for (Situation situation : Situation.withoutList()) {
            Due.answer(situation.make(), Call.best(), ListDecoder.NO_LIST);
        }
        for (Situation situation : Situation.withList()) {
            ListDecoder decoder = situation.make();
            decoder.erase(0);
            Due.answer(decoder, Call.best(), ListDecoder.NO_LIST);
        }
    }

    /** Twelve symbols at positions 0..11; position 12 gives one of them a second agreement. */
    private static void everyIndex() {
        for (int twice = 0; twice < 12; twice++) {
            ListDecoder decoder = new ListDecoder(13, 1);
            for (int x = 0; x < 12; x++) {
                decoder.put(x, x);
            }
            decoder.put(12, twice);
            decoder.decode(1);
            Due.due("best() with " + twice + " twice", decoder.best(), twice);
        }
        ListDecoder rising = new ListDecoder(10, 1);
        rising.write(1, 0, 0, 1);
        rising.write(2, 0, 0, 6);
        rising.write(3, 0, 0, 56);
        rising.write(4, 0, 0, 960);
        rising.decode(1);
        Due.due("best() of agreements 1, 2, 3, 4", rising.best(), 3);
        ListDecoder falling = new ListDecoder(10, 1);
        falling.write(4, 0, 0, 1);
        falling.write(3, 0, 0, 6);
        falling.write(2, 0, 0, 56);
        falling.write(1, 0, 0, 960);
        falling.decode(1);
        Due.due("best() of agreements 4, 3, 2, 1", falling.best(), 0);
    }

    private static void leastOfSeveral() {
        for (int first = 0; first < 6; first++) {
            for (int second = first + 1; second < 6; second++) {
                ListDecoder decoder = new ListDecoder(8, 1);
                for (int x = 0; x < 6; x++) {
                    decoder.put(x, x);
                }
                decoder.put(6, second);
                decoder.put(7, first);
                decoder.decode(1);
                Due.due("best() with " + first + " and " + second + " twice", decoder.best(), first);
            }
        }
    }

    private static void leastOfAll() {
        ListDecoder decoder = new ListDecoder(13, 1);
        for (int x = 0; x < 13; x++) {
            decoder.put(x, 12 - x);
            decoder.decode(1);
            Due.due("best() of " + (x + 1) + " agreements of 1", decoder.best(), 0);
        }
        ListDecoder lines = new ListDecoder(10, 2);
        lines.write(8, 2, 0, 31);
        lines.write(1, 5, 0, 992);
        lines.decode(5);
        Due.answer(lines, Call.size(), 2);
        Due.answer(lines, Call.best(), 0);
    }

    private static void emptyList() {
        for (Situation situation : Situation.withEmptyList()) {
            Due.keeps(situation, Call.best(), ListDecoder.NONE);
        }
    }
}
