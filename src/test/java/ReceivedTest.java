/** Promise 9: received. */
final class ReceivedTest {
    public static void main(String[] args) {
        Due.sentence("received() is a getter", ReceivedTest::isAGetter);
        Due.sentence("It answers the number of positions that are not erased", ReceivedTest::counts);
        Due.sentence("from 0", ReceivedTest::none);
        Due.sentence("to n", ReceivedTest::all);
        Due.end();
    }

    private static void isAGetter() {
        for (Situation situation : Situation.all()) {
            Due.keeps(situation, Call.received(), Due.held(situation.word()));
        }
    }

    private static void counts() {
        for (int n = 4; n <= 13; n++) {
            for (int mask = 0; mask < 1 << n; mask++) {
                ListDecoder decoder = new ListDecoder(n, 1);
                decoder.write(0, 0, 0, mask);
                Due.due("received() with the positions of " + mask, decoder.received(), Integer.bitCount(mask));
            }
        }
    }

    private static void none() {
        for (int n = 4; n <= 13; n++) {
            ListDecoder decoder = new ListDecoder(n, 1);
            Due.answer(decoder, Call.received(), 0);
            decoder.write(1, 0, 0, (1 << n) - 1);
            for (int x = 0; x < n; x++) {
                decoder.erase(x);
            }
            Due.answer(decoder, Call.received(), 0);
            decoder.erase(0);
            Due.answer(decoder, Call.received(), 0);
        }
    }

    private static void all() {
        for (int n = 4; n <= 13; n++) {
            ListDecoder decoder = new ListDecoder(n, 1);
            for (int x = 0; x < n; x++) {
                decoder.put(x, 12);
            }
            Due.answer(decoder, Call.received(), n);
            decoder.put(0, 12);
            Due.answer(decoder, Call.received(), n);
            decoder.write(0, 0, 0, (1 << n) - 1);
            Due.answer(decoder, Call.received(), n);
        }
    }
}
