/** Promise 2: length. */
final class LengthTest {
    public static void main(String[] args) {
        Due.sentence("length() is a getter", LengthTest::isAGetter);
        Due.sentence("length() answers n, in every state", LengthTest::inEveryState);
        Due.end();
    }

    private static void isAGetter() {
        for (Situation situation : Situation.all()) {
            Due.keeps(situation, Call.length(), situation.n());
        }
    }

    private static void inEveryState() {
        for (int n = 4; n <= 13; n++) {
            for (int k = 1; k <= 3; k++) {
                ListDecoder decoder = new ListDecoder(n, k);
                Call[] calls = {Call.put(0, 3), Call.put(n, 3), Call.disturb(0, 9), Call.disturb(1, 9),
                    Call.write(4, 0, 0, (1 << n) - 1), Call.write(13, 0, 0, 1), Call.erase(1), Call.erase(n),
                    Call.decode(0), Call.decode(n - 1), Call.correct(1), Call.correct(0), Call.correct(0),
                    Call.decode(n + 1), Call.correct(0)};
                Due.answer(decoder, Call.length(), n);
                for (Call call : calls) {
                    call.on(decoder);
                    Due.due("length() after " + call.text(), decoder.length(), n);
                }
            }
        }
    }
}
