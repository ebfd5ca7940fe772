/** Promise 12: size. */
final class SizeTest {
    public static void main(String[] args) {
        Due.sentence("size() is a getter", SizeTest::isAGetter);
        Due.sentence("It answers the number of entries of the list", SizeTest::entries);
        Due.sentence("0 for an empty list", SizeTest::emptyList);
        Due.sentence("or NO_LIST if the decoder holds no list", SizeTest::noList);
        Due.end();
    }

    private static void isAGetter() {
        for (Situation situation : Situation.all()) {
            Due.keeps(situation, Call.size(), situation.size());
            ListDecoder decoder = situation.make();
            Due.answer(decoder, Call.size(), situation.size());
            Due.answer(decoder, Call.size(), situation.size());
        }
    }

    private static void entries() {
        ListDecoder decoder = new ListDecoder(13, 1);
        for (int count = 1; count <= 13; count++) {
            decoder.put(count - 1, 13 - count);
            decoder.decode(1);
            Due.answer(decoder, Call.size(), count);
        }
    }

    private static void emptyList() {
        for (Situation situation : Situation.withEmptyList()) {
            Due.answer(situation.make(), Call.size(), 0);
        }
        for (Situation situation : Situation.withEntries()) {
            ListDecoder decoder = situation.make();
            decoder.decode(14);
            Due.answer(decoder, Call.size(), 0);
        }
    }

    private static void noList() {
        for (Situation situation : Situation.withoutList()) {
            Due.answer(situation.make(), Call.size(), ListDecoder.NO_LIST);
        }
        for (Situation situation : Situation.withList()) {
            for (Call call : new Call[] {Call.put(0, 0), Call.erase(0), Call.write(0, 0, 0, 0)}) {
                ListDecoder decoder = situation.make();
                call.on(decoder);
                Due.due("size() after " + call.text(), decoder.size(), ListDecoder.NO_LIST);
            }
        }
    }
}
