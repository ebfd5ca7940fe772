import java.util.ArrayList;
import java.util.List;

/** What stands under "Refusals": the order of the conditions, refused calls and getters change nothing. */
final class RefusalsTest {
    public static void main(String[] args) {
        Due.sentence("The first condition that fails gives the answer: put", RefusalsTest::orderInPut);
        Due.sentence("The first condition that fails gives the answer: write", RefusalsTest::orderInWrite);
        Due.sentence("The first condition that fails gives the answer: coefficient",
                RefusalsTest::orderInCoefficient);
        Due.sentence("The first condition that fails gives the answer: agreement", RefusalsTest::orderInAgreement);
        Due.sentence("The first condition that fails gives the answer: find", RefusalsTest::orderInFind);
        Due.sentence("The first condition that fails gives the answer: correct", RefusalsTest::orderInCorrect);
        Due.sentence("A refused call changes nothing at all: not the word, not the list", RefusalsTest::refused);
        Due.sentence("Nothing changes by many refused calls one after the other", RefusalsTest::refusedInARow);
        Due.sentence("Getters never change anything, whatever they answer", RefusalsTest::getters);
        Due.sentence("Getters answer the same when asked again", RefusalsTest::gettersAgain);
        Due.sentence("Nothing else touches the list: getters and refused calls in a row", RefusalsTest::allInARow);
        Due.end();
    }

    /** The first condition that fails, of those that are examined in this order. */
    private static int first(int... answers) {
        for (int answer : answers) {
            if (answer != ListDecoder.OK) {
                return answer;
            }
        }
        return ListDecoder.OK;
    }

    private static int unless(boolean holds, int refusal) {
        return holds ? ListDecoder.OK : refusal;
    }

    private static int listAndIndex(Situation situation, int index) {
        return first(unless(situation.hasList(), ListDecoder.NO_LIST),
                unless(index >= 0 && index < situation.size(), ListDecoder.BAD_INDEX));
    }

    private static void orderInPut() {
        for (Situation situation : Situation.all()) {
            for (int position : new int[] {-1, 0, situation.n() - 1, situation.n()}) {
                for (int symbol : new int[] {-1, 0, 12, 13}) {
                    int due = first(unless(position >= 0 && position < situation.n(), ListDecoder.BAD_POSITION),
                            unless(symbol >= 0 && symbol <= 12, ListDecoder.BAD_SYMBOL));
                    Due.answer(situation.make(), Call.put(position, symbol), due);
                }
            }
        }
    }

    private static void orderInWrite() {
        for (Situation situation : Situation.all()) {
            for (int c0 : new int[] {-1, 0, 12, 13}) {
                for (int mask : new int[] {-1, 0, 1, (1 << situation.n()) - 1, 1 << situation.n()}) {
                    int due = first(unless(c0 >= 0 && c0 <= 12, ListDecoder.BAD_MESSAGE),
                            unless(mask >= 0 && mask < 1 << situation.n(), ListDecoder.BAD_MASK),
                            Integer.bitCount(mask));
                    Due.answer(situation.make(), Call.write(c0, 0, 0, mask), due);
                }
            }
        }
    }

    private static void orderInCoefficient() {
        for (Situation situation : Situation.all()) {
            for (int index : new int[] {-1, 0, Math.max(0, situation.size()), 13}) {
                for (int degree : new int[] {-1, 0, situation.k() - 1, situation.k()}) {
                    int due = first(listAndIndex(situation, index),
                            unless(degree >= 0 && degree < situation.k(), ListDecoder.BAD_DEGREE));
                    if (due != ListDecoder.OK) {
                        Due.answer(situation.make(), Call.coefficient(index, degree), due);
                    }
                }
            }
        }
    }

    private static void orderInAgreement() {
        for (Situation situation : Situation.all()) {
            for (int index : new int[] {-1, Math.max(0, situation.size()), 13}) {
                Due.answer(situation.make(), Call.agreement(index), listAndIndex(situation, index));
            }
        }
    }

    private static void orderInFind() {
        for (Situation situation : Situation.all()) {
            for (int[] triple : Triples.noMessages(situation.k())) {
                Due.answer(situation.make(), Call.find(triple[0], triple[1], triple[2]),
                        situation.hasList() ? ListDecoder.BAD_MESSAGE : ListDecoder.NO_LIST);
            }
        }
    }

    private static void orderInCorrect() {
        for (Situation situation : Situation.all()) {
            for (int index : new int[] {-1, Math.max(0, situation.size()), 13}) {
                Due.answer(situation.make(), Call.correct(index), listAndIndex(situation, index));
            }
        }
    }

    private record Refused(Call call, int answer) {
    }

    /** Calls that change the decoder when accepted, with arguments that are refused in this situation. */
    private static List<Refused> refusedIn(Situation situation) {
        List<Refused> calls = new ArrayList<>();
        for (int bad : Numbers.outside(situation.n())) {
            calls.add(new Refused(Call.put(bad, 1), ListDecoder.BAD_POSITION));
            calls.add(new Refused(Call.disturb(bad, 1), ListDecoder.BAD_POSITION));
            calls.add(new Refused(Call.erase(bad), ListDecoder.BAD_POSITION));
        }
        for (int bad : Numbers.outside(13)) {
            calls.add(new Refused(Call.put(0, bad), ListDecoder.BAD_SYMBOL));
            calls.add(new Refused(Call.write(bad, 0, 0, 15), ListDecoder.BAD_MESSAGE));
        }
        for (int bad : Numbers.outside(1 << situation.n())) {
            calls.add(new Refused(Call.write(1, 0, 0, bad), ListDecoder.BAD_MASK));
        }
        for (int bad : Numbers.outside(Math.max(0, situation.size()))) {
            calls.add(new Refused(Call.correct(bad), listAndIndex(situation, bad)));
        }
        int m = Due.held(situation.word());
        for (int bad : new int[] {Integer.MIN_VALUE, -1, 0, Model.LOWEST[situation.k() - 1][m] - 1}) {
            calls.add(new Refused(Call.decode(bad), ListDecoder.BAD_THRESHOLD));
        }
        for (int x = 0; x < situation.n(); x++) {
            if (situation.word()[x] < 0) {
                calls.add(new Refused(Call.disturb(x, 1), ListDecoder.NONE));
            }
        }
        return calls;
    }

    private static void refused() {
        for (Situation situation : Situation.all()) {
            for (Refused refused : refusedIn(situation)) {
                Due.keeps(situation, refused.call(), refused.answer());
            }
        }
    }

    private static void refusedInARow() {
        for (Situation situation : Situation.all()) {
            ListDecoder decoder = situation.make();
            for (Refused refused : refusedIn(situation)) {
                Due.answer(decoder, refused.call(), refused.answer());
            }
            Due.unchanged("refused calls on " + situation.name(), decoder, situation);
        }
    }

    private static void getters() {
        for (Situation situation : Situation.all()) {
            for (Call call : Call.getters()) {
                ListDecoder decoder = situation.make();
                call.on(decoder);
                Due.unchanged(call.text() + " on " + situation.name(), decoder, situation);
            }
        }
    }

    private static void gettersAgain() {
        for (Situation situation : Situation.all()) {
            ListDecoder decoder = situation.make();
            for (Call call : Call.getters()) {
                int answer = call.on(situation.make());
                Due.answer(decoder, call, answer);
                Due.answer(decoder, call, answer);
            }
        }
    }

    private static void allInARow() {
        for (Situation situation : Situation.all()) {
            ListDecoder decoder = situation.make();
            for (Refused refused : refusedIn(situation)) {
                Due.answer(decoder, refused.call(), refused.answer());
                for (Call call : Call.getters()) {
                    call.on(decoder);
                }
            }
            Due.unchanged("refused calls and getters on " + situation.name(), decoder, situation);
        }
    }
}
