/** Promise 5: disturb. */
final class DisturbTest {
    private static final int[] DELTAS = {Integer.MIN_VALUE, -13, -1, 0, 1, 12, 13, Integer.MAX_VALUE};
    /** Multiples of 13, the greatest and the least that are ints among them. */
    private static final int[] MULTIPLES = {0, 13, -13, 26, -26, 169, -169, 2147483637, -2147483637};

    public static void main(String[] args) {
        Due.sentence("Condition 1: a position below 0 gives BAD_POSITION", DisturbTest::positionBelowZero);
        Due.sentence("Condition 1: a position above n-1 gives BAD_POSITION", DisturbTest::positionTooLarge);
        Due.sentence("Condition 2: an erased position gives NONE", DisturbTest::erasedPosition);
        Due.sentence("In that case the position stays erased", DisturbTest::staysErased);
        Due.sentence("and a list that was there stays", DisturbTest::listStays);
        Due.sentence("r = 12 for delta = -1", () -> adds(-1, 12));
        Due.sentence("r = 0 for delta = -13", () -> adds(-13, 0));
        Due.sentence("r = 10 for delta = 2147483647", () -> adds(2147483647, 10));
        Due.sentence("r = 2 for delta = -2147483648", () -> adds(-2147483648, 2));
        Due.sentence("Every int is allowed as delta: around 0", DisturbTest::deltasAroundZero);
        Due.sentence("Every int is allowed as delta: next to the greatest", DisturbTest::greatestDeltas);
        Due.sentence("Every int is allowed as delta: next to the least", DisturbTest::leastDeltas);
        Due.sentence("The position now holds (s + r) mod 13: it wraps around above 12", DisturbTest::wrapsAround);
        Due.sentence("There is no list any more", DisturbTest::takesTheList);
        Due.sentence("also if r = 0", DisturbTest::takesTheListWithoutChange);
        Due.sentence("The answer is the new symbol, in 0..12", DisturbTest::answersTheNewSymbol);
        Due.sentence("All other positions stay as they are", DisturbTest::otherPositionsStay);
        Due.sentence("m stays", DisturbTest::receivedStays);
        Due.end();
    }

    private static void positionBelowZero() {
        for (Situation situation : Situation.all()) {
            for (int bad : Numbers.BELOW_ZERO) {
                Due.keeps(situation, Call.disturb(bad, 1), ListDecoder.BAD_POSITION);
                Due.keeps(situation, Call.disturb(bad, 0), ListDecoder.BAD_POSITION);
            }
        }
    }

    private static void positionTooLarge() {
        for (Situation situation : Situation.all()) {
            for (int bad : Numbers.from(situation.n())) {
                Due.keeps(situation, Call.disturb(bad, 1), ListDecoder.BAD_POSITION);
                Due.keeps(situation, Call.disturb(bad, 0), ListDecoder.BAD_POSITION);
            }
        }
    }

    private static void erasedPosition() {
        for (int n = 4; n <= 13; n++) {
            ListDecoder decoder = new ListDecoder(n, 1);
            for (int x = 0; x < n; x++) {
                for (int delta : DELTAS) {
                    Due.answer(decoder, Call.disturb(x, delta), ListDecoder.NONE);
                }
            }
        }
    }

    private static void staysErased() {
        ListDecoder decoder = new ListDecoder(4, 1);
        decoder.put(1, 12);
        for (int delta : DELTAS) {
            decoder.disturb(2, delta);
            Due.word("disturb(2, " + delta + ") on an erased position", decoder, -1, 12, -1, -1);
        }
    }

    private static void listStays() {
        for (Situation situation : Situation.withList()) {
            for (int x = 0; x < situation.n(); x++) {
                if (situation.word()[x] < 0) {
                    for (int delta : DELTAS) {
                        Due.keeps(situation, Call.disturb(x, delta), ListDecoder.NONE);
                    }
                }
            }
        }
    }

    /** From every symbol: the word, and with it the answer of the next call, must show s + r. */
    private static void adds(int delta, int r) {
        for (int symbol = 0; symbol <= 12; symbol++) {
            ListDecoder decoder = new ListDecoder(4, 1);
            decoder.put(2, symbol);
            Due.answer(decoder, Call.disturb(2, delta), (symbol + r) % 13);
            Due.word("disturb(2, " + delta + ") on " + symbol, decoder, -1, -1, (symbol + r) % 13, -1);
        }
    }

    private static int residue(long delta) {
        return (int) Math.floorMod(delta, 13L);
    }

    private static void deltasAroundZero() {
        for (int delta = -200; delta <= 200; delta++) {
            adds(delta, residue(delta));
        }
    }

    private static void greatestDeltas() {
        for (int step = 0; step < 60; step++) {
            adds(Integer.MAX_VALUE - step, residue(Integer.MAX_VALUE - step));
        }
    }

    private static void leastDeltas() {
        for (int step = 0; step < 60; step++) {
            adds(Integer.MIN_VALUE + step, residue(Integer.MIN_VALUE + step));
        }
    }

    private static void wrapsAround() {
        ListDecoder decoder = new ListDecoder(4, 1);
        decoder.put(0, 12);
        Due.answer(decoder, Call.disturb(0, 1), 0);
        Due.answer(decoder, Call.symbolAt(0), 0);
        Due.answer(decoder, Call.disturb(0, -1), 12);
        Due.answer(decoder, Call.symbolAt(0), 12);
        Due.answer(decoder, Call.disturb(0, 12), 11);
        Due.answer(decoder, Call.symbolAt(0), 11);
    }

    private static void takesTheList() {
        for (Situation situation : Situation.withList()) {
            for (int x = 0; x < situation.n(); x++) {
                if (situation.word()[x] >= 0) {
                    int after = (situation.word()[x] + 5) % 13;
                    Due.takes(situation, Call.disturb(x, 5), after, situation.wordWith(x, after));
                }
            }
        }
    }

    private static void takesTheListWithoutChange() {
        for (Situation situation : Situation.withList()) {
            for (int x = 0; x < situation.n(); x++) {
                if (situation.word()[x] >= 0) {
                    for (int delta : MULTIPLES) {
                        Due.takes(situation, Call.disturb(x, delta), situation.word()[x], situation.word());
                    }
                }
            }
        }
    }

    private static void answersTheNewSymbol() {
        for (int n = 4; n <= 13; n++) {
            ListDecoder decoder = new ListDecoder(n, 1);
            for (int x = 0; x < n; x++) {
                decoder.put(x, 0);
                for (int round = 1; round <= 26; round++) {
                    Due.answer(decoder, Call.disturb(x, 1), round % 13);
                    Due.answer(decoder, Call.symbolAt(x), round % 13);
                }
            }
        }
    }

    private static void otherPositionsStay() {
        for (Situation situation : Situation.all()) {
            for (int x = 0; x < situation.n(); x++) {
                if (situation.word()[x] >= 0) {
                    ListDecoder decoder = situation.make();
                    decoder.disturb(x, -4);
                    Due.word("disturb(" + x + ", -4)", decoder,
                            situation.wordWith(x, (situation.word()[x] + 9) % 13));
                }
            }
        }
    }

    private static void receivedStays() {
        for (Situation situation : Situation.all()) {
            ListDecoder decoder = situation.make();
            for (int x = 0; x < situation.n(); x++) {
                for (int delta : DELTAS) {
                    decoder.disturb(x, delta);
                    Due.answer(decoder, Call.received(), Due.held(situation.word()));
                }
            }
        }
    }
}
