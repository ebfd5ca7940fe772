/** What stands under "Terms and common rules": field, code, word and list. */
final class TermsTest {
    public static void main(String[] args) {
        Due.sentence("Field: all sums are taken modulo 13, with residues 0..12", TermsTest::sums);
        Due.sentence("Field: all products are taken modulo 13, with residues 0..12", TermsTest::products);
        Due.sentence("Code: the positions are 0..n-1", TermsTest::positions);
        Due.sentence("Code: for k = 1 both c1 and c2 are 0", () -> messages(1));
        Due.sentence("Code: for k = 2 c2 is 0", () -> messages(2));
        Due.sentence("Code: for k = 3 every triple of symbols is a message", () -> messages(3));
        Due.sentence("Word: the agreement counts the positions whose symbol equals the codeword's",
                TermsTest::agreementCounts);
        Due.sentence("Word: erased positions never count", TermsTest::erasedNeverCount);
        Due.sentence("List: no list after put, even if no symbol changed", TermsTest::noListAfterPut);
        Due.sentence("List: no list after disturb, even if no symbol changed", TermsTest::noListAfterDisturb);
        Due.sentence("List: no list after erase, even if no symbol changed", TermsTest::noListAfterErase);
        Due.sentence("List: no list after write, even if no symbol changed", TermsTest::noListAfterWrite);
        Due.sentence("List: no list after correct, even if no symbol changed", TermsTest::noListAfterCorrect);
        Due.sentence("List: an accepted decode makes a new list in place of the old one", TermsTest::newList);
        Due.sentence("List: ascending order of c0", TermsTest::orderOfC0);
        Due.sentence("List: among equal c0 ascending order of c1", TermsTest::orderOfC1);
        Due.sentence("List: among equal c0 and c1 ascending order of c2", TermsTest::orderOfC2);
        Due.sentence("List: c0 comes before c1 and c2 in the order", TermsTest::orderOfAll);
        Due.sentence("List: no message stands in a list twice", TermsTest::noneTwice);
        Due.sentence("List: a list of thirteen entries, none is lost", TermsTest::thirteen);
        Due.sentence("List: no list has more than 13 entries", TermsTest::notMoreThanThirteen);
        Due.sentence("List: an empty list is a list and is not the same as no list", TermsTest::emptyIsAList);
        Due.end();
    }

    private static void sums() {
        for (int s = 0; s <= 12; s++) {
            for (int t = 0; t <= 12; t++) {
                ListDecoder decoder = new ListDecoder(4, 2);
                decoder.put(0, s);
                Due.due(s + " + " + t + " by disturb", decoder.disturb(0, t), s + t > 12 ? s + t - 13 : s + t);
                decoder.write(s, t, 0, 2);
                Due.due(s + " + " + t + " by write", decoder.symbolAt(1), s + t > 12 ? s + t - 13 : s + t);
            }
        }
    }

    /** Products by repeated sums: at x, c1 = s gives s*x and c2 = s gives s*x*x. */
    private static void products() {
        for (int s = 0; s <= 12; s++) {
            ListDecoder line = new ListDecoder(13, 2);
            line.write(0, s, 0, 8191);
            ListDecoder parabola = new ListDecoder(13, 3);
            parabola.write(0, 0, s, 8191);
            for (int x = 0; x <= 12; x++) {
                Due.due(s + "*" + x, line.symbolAt(x), times(s, x));
                Due.due(s + "*" + x + "*" + x, parabola.symbolAt(x), times(times(s, x), x));
            }
        }
    }

    private static int times(int s, int x) {
        int product = 0;
        for (int round = 0; round < x; round++) {
            product = product + s > 12 ? product + s - 13 : product + s;
        }
        return product;
    }

    private static void positions() {
        for (int n = 4; n <= 13; n++) {
            ListDecoder decoder = new ListDecoder(n, 1);
            for (int x = -20; x <= 40; x++) {
                boolean inside = x >= 0 && x <= n - 1;
                Due.answer(decoder, Call.symbolAt(x), inside ? ListDecoder.NONE : ListDecoder.BAD_POSITION);
                Due.answer(decoder, Call.put(x, 1), inside ? ListDecoder.OK : ListDecoder.BAD_POSITION);
                Due.answer(decoder, Call.disturb(x, 1), inside ? 2 : ListDecoder.BAD_POSITION);
                Due.answer(decoder, Call.erase(x), inside ? ListDecoder.OK : ListDecoder.BAD_POSITION);
            }
        }
    }

    /** Every triple from -1 to 13: find and write must tell messages from other triples. */
    private static void messages(int k) {
        ListDecoder decoder = new ListDecoder(4, k);
        for (int c0 = -1; c0 <= 13; c0++) {
            for (int c1 = -1; c1 <= 13; c1++) {
                for (int c2 = -1; c2 <= 13; c2++) {
                    boolean symbols = c0 >= 0 && c0 <= 12 && c1 >= 0 && c1 <= 12 && c2 >= 0 && c2 <= 12;
                    boolean message = symbols && (k == 3 || c2 == 0) && (k != 1 || c1 == 0);
                    decoder.decode(1);
                    Due.answer(decoder, Call.find(c0, c1, c2), message ? ListDecoder.NONE : ListDecoder.BAD_MESSAGE);
                    Due.answer(decoder, Call.write(c0, c1, c2, 0), message ? 0 : ListDecoder.BAD_MESSAGE);
                }
            }
        }
    }

    private static void agreementCounts() {
        for (int mask = 1; mask < 256; mask++) {
            ListDecoder decoder = new ListDecoder(8, 1);
            decoder.write(6, 0, 0, mask);
            decoder.write(7, 0, 0, 255 - mask);
            decoder.decode(1);
            int index = decoder.find(6, 0, 0);
            Due.due("agreement of 6 at the positions of " + mask, decoder.agreement(index), Integer.bitCount(mask));
        }
    }

    /** Were an erased position taken for a zero or for what it held, the message would gain by it. */
    private static void erasedNeverCount() {
        for (int symbol = 0; symbol <= 12; symbol++) {
            for (int mask = 1; mask < 64; mask++) {
                ListDecoder decoder = new ListDecoder(6, 1);
                decoder.write(symbol, 0, 0, 63);
                for (int x = 0; x < 6; x++) {
                    if ((mask >> x) % 2 == 0) {
                        decoder.erase(x);
                    }
                }
                Due.answer(decoder, Call.decode(1), 1);
                Due.list("only the positions of " + mask, decoder,
                        new int[] {symbol, 0, 0, Integer.bitCount(mask)});
                Due.answer(decoder, Call.decode(Integer.bitCount(mask) + 1), 0);
            }
        }
        for (int n = 4; n <= 13; n++) {
            for (int k = 1; k <= 3; k++) {
                ListDecoder decoder = new ListDecoder(n, k);
                Due.answer(decoder, Call.decode(1), 0);
            }
        }
    }

    private static void noListAfterPut() {
        for (Situation situation : Situation.withList()) {
            for (int x = 0; x < situation.n(); x++) {
                int same = Math.max(0, situation.word()[x]);
                Due.takes(situation, Call.put(x, same), ListDecoder.OK, situation.wordWith(x, same));
                Due.takes(situation, Call.put(x, (same + 6) % 13), ListDecoder.OK,
                        situation.wordWith(x, (same + 6) % 13));
            }
        }
    }

    private static void noListAfterDisturb() {
        for (Situation situation : Situation.withList()) {
            for (int x = 0; x < situation.n(); x++) {
                int symbol = situation.word()[x];
                if (symbol >= 0) {
                    Due.takes(situation, Call.disturb(x, 0), symbol, situation.word());
                    Due.takes(situation, Call.disturb(x, 13), symbol, situation.word());
                    Due.takes(situation, Call.disturb(x, 6), (symbol + 6) % 13,
                            situation.wordWith(x, (symbol + 6) % 13));
                }
            }
        }
    }

    private static void noListAfterErase() {
        for (Situation situation : Situation.withList()) {
            for (int x = 0; x < situation.n(); x++) {
                Due.takes(situation, Call.erase(x), ListDecoder.OK, situation.wordWith(x, -1));
            }
        }
    }

    private static void noListAfterWrite() {
        for (Situation situation : Situation.withList()) {
            Due.takes(situation, Call.write(0, 0, 0, 0), 0, situation.word());
            for (int x = 0; x < situation.n(); x++) {
                int same = Math.max(0, situation.word()[x]);
                Due.takes(situation, Call.write(same, 0, 0, 1 << x), 1, situation.wordWith(x, same));
            }
        }
    }

    private static void noListAfterCorrect() {
        for (Situation situation : Situation.withEntries()) {
            for (int index = 0; index < situation.size(); index++) {
                ListDecoder decoder = situation.make();
                decoder.correct(index);
                Due.noList("correct(" + index + ") on " + situation.name(), decoder);
                Due.answer(decoder, Call.decode(situation.n()), 1);
                Due.answer(decoder, Call.correct(0), 0);
                Due.noList("correct(0) of the codeword", decoder);
            }
        }
    }

    private static void newList() {
        for (Situation situation : Situation.withList()) {
            ListDecoder decoder = situation.make();
            decoder.decode(14);
            Due.list("decode(14) on " + situation.name(), decoder);
        }
        ListDecoder decoder = new ListDecoder(4, 1);
        decoder.write(9, 0, 0, 15);
        decoder.decode(5);
        Due.list("decode(5)", decoder);
        decoder.decode(4);
        Due.list("decode(4) after decode(5)", decoder, new int[] {9, 0, 0, 4});
    }

    private static void orderOfC0() {
        ListDecoder decoder = new ListDecoder(8, 1);
        decoder.write(12, 0, 0, 7);
        decoder.write(0, 0, 0, 24);
        decoder.write(5, 0, 0, 224);
        decoder.decode(2);
        Due.list("order of c0", decoder, new int[] {0, 0, 0, 2}, new int[] {5, 0, 0, 3}, new int[] {12, 0, 0, 3});
    }

    /** All lines pass through (0, 7): they have the same c0. */
    private static void orderOfC1() {
        ListDecoder two = new ListDecoder(5, 2);
        two.write(7, 11, 0, 7);
        two.write(7, 2, 0, 24);
        two.decode(3);
        Due.list("order of c1", two, new int[] {7, 2, 0, 3}, new int[] {7, 11, 0, 3});

        ListDecoder four = new ListDecoder(13, 2);
        four.write(7, 12, 0, 1 + 2 + 4 + 8 + 16);
        four.write(7, 0, 0, 32 + 64 + 128 + 256);
        four.write(7, 6, 0, 512 + 1024 + 2048 + 4096);
        four.decode(5);
        Due.list("order of c1", four, new int[] {7, 0, 0, 5}, new int[] {7, 6, 0, 5}, new int[] {7, 12, 0, 5});
    }

    /** x*x and -x*x meet at 0 alone. */
    private static void orderOfC2() {
        ListDecoder decoder = new ListDecoder(13, 3);
        decoder.write(0, 0, 12, 127);
        decoder.write(0, 0, 1, 8064);
        decoder.decode(7);
        Due.list("order of c2", decoder, new int[] {0, 0, 1, 7}, new int[] {0, 0, 12, 7});
    }

    /** The entry with the less c0 has the greater c1, then the less c1 the greater c2. */
    private static void orderOfAll() {
        ListDecoder lines = new ListDecoder(10, 2);
        lines.write(1, 12, 0, 31);
        lines.write(2, 0, 0, 992);
        lines.decode(5);
        Due.list("c0 before c1", lines, new int[] {1, 12, 0, 5}, new int[] {2, 0, 0, 5});

        // The difference (x - 1)(x - 4) = 4 + 8x + x*x is 0 at 1 and 4.
        ListDecoder parabolas = new ListDecoder(10, 3);
        parabolas.write(5, 6, 12, 63);
        parabolas.write(9, 1, 0, 960);
        parabolas.decode(6);
        Due.list("c0 before c2", parabolas, new int[] {5, 6, 12, 6}, new int[] {9, 1, 0, 6});

        // x*(x - 1)*12 = x + 12*x*x is 0 at 0 and 1.
        ListDecoder sameC0 = new ListDecoder(10, 3);
        sameC0.write(3, 0, 12, 63);
        sameC0.write(3, 1, 11, 960);
        sameC0.decode(6);
        Due.list("c1 before c2", sameC0, new int[] {3, 0, 12, 6}, new int[] {3, 1, 11, 6});
    }

    /** A list in strictly ascending order has no message twice. */
    private static void noneTwice() {
        for (int k = 1; k <= 3; k++) {
            for (int c0 = 0; c0 <= 12; c0++) {
                ListDecoder decoder = new ListDecoder(13, k);
                for (int x = 0; x < 13; x++) {
                    decoder.put(x, (c0 + x * x * x) % 13);
                }
                decoder.decode(Model.LOWEST[k - 1][13]);
                ascending("x*x*x + " + c0, decoder);
                decoder.write(c0, 0, 0, 8191);
                decoder.decode(7);
                Due.answer(decoder, Call.size(), 1);
                ascending("a codeword", decoder);
            }
        }
        ascending("thirteen", Situation.thirteenEntries().make());
    }

    private static int rank(ListDecoder decoder, int index) {
        int rank = 0;
        for (int degree = 0; degree < decoder.dimension(); degree++) {
            rank = rank * 13 + decoder.coefficient(index, degree);
        }
        return rank;
    }

    private static void ascending(String where, ListDecoder decoder) {
        for (int i = 1; i < decoder.size(); i++) {
            Due.due(where + ": entry " + i + " follows entry " + (i - 1),
                    rank(decoder, i) > rank(decoder, i - 1) ? 1 : 0, 1);
        }
        Due.due(where + ": a list", decoder.size() >= 0 ? 1 : 0, 1);
    }

    private static void thirteen() {
        Situation thirteen = Situation.thirteenEntries();
        Due.unchanged("thirteen entries", thirteen.make(), thirteen);
        for (int shift = 0; shift <= 12; shift++) {
            ListDecoder decoder = new ListDecoder(13, 1);
            for (int x = 0; x < 13; x++) {
                decoder.put(x, (5 * x + shift) % 13);
            }
            Due.answer(decoder, Call.decode(1), 13);
            Due.list("thirteen entries", decoder, thirteen.entries());
        }
    }

    /**
     * Two messages share at most k-1 positions, so j entries with threshold t hold at least
     * j*t - (k-1)*j*(j-1)/2 positions. That leaves 13 entries for k = 1, 3 for k = 2 and 2 for
     * k = 3; these words have the greatest lists of all with the lowest thresholds.
     */
    private static void notMoreThanThirteen() {
        fullest(1, 13, 12, 5, 0, 3, 9, 1, 7, 11, 2, 8, 4, 10, 6);
        fullest(2, 2, 6, 6, 1, 5, 11);
        fullest(2, 3, 10, 11, 12, 0, 2, 0, 11, 11, 11);
        fullest(2, 3, 5, 2, 12, 3, 1, 11, 7, 10, 0, 4, 5, 9);
        fullest(2, 3, 0, 1, 7, 9, 1, 11, 1, 6, 1, 1, 8, 4, 5);
        fullest(3, 2, 8, 2, 12, 4, 12, 3, 11, 2);
        fullest(3, 2, 4, 6, 7, 6, 3, 0, 9, 3, 0, 10, 1);
        fullest(3, 2, 7, 9, 6, 11, 11, 1, 12, 4, 4, 3, 1, 1, 0);
    }

    private static void fullest(int k, int size, int... word) {
        ListDecoder decoder = new ListDecoder(word.length, k);
        Model model = new Model(word.length, k);
        for (int x = 0; x < word.length; x++) {
            decoder.put(x, word[x]);
            model.put(x, word[x]);
        }
        int lowest = Model.LOWEST[k - 1][word.length];
        Due.answer(decoder, Call.decode(lowest), size);
        model.decode(lowest);
        Due.list("a full list", decoder, model.list.toArray(new int[0][]));
    }

    private static void emptyIsAList() {
        for (Situation situation : Situation.withEmptyList()) {
            ListDecoder decoder = situation.make();
            Due.answer(decoder, Call.size(), 0);
            Due.answer(decoder, Call.best(), ListDecoder.NONE);
            Due.answer(decoder, Call.find(0, 0, 0), ListDecoder.NONE);
            Due.answer(decoder, Call.agreement(0), ListDecoder.BAD_INDEX);
            Due.answer(decoder, Call.coefficient(0, 0), ListDecoder.BAD_INDEX);
            Due.answer(decoder, Call.correct(0), ListDecoder.BAD_INDEX);
            decoder.write(0, 0, 0, 0);
            Due.noList("the same word without its empty list", decoder);
        }
    }
}
