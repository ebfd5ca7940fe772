/** Compares answers with the ones that are due, and ends a test with 1 if one was wrong. */
final class Due {
    static final int[] EXTREMES = {Integer.MIN_VALUE, Integer.MIN_VALUE + 1, -1000, -13, -2, -1};

    private static int asked = 0;
    private static int wrong = 0;

    private Due() {
    }

    static void due(String call, long got, long want) {
        asked++;
        if (got != want) {
            wrong++;
            System.out.println(call + " answered " + got + ", due is " + want);
        }
    }

    /** The word must be the given one; -1 stands for an erased position. */
    static void word(String where, ListDecoder decoder, int... symbols) {
        due(where + ": length()", decoder.length(), symbols.length);
        int held = 0;
        for (int x = 0; x < symbols.length; x++) {
            due(where + ": symbolAt(" + x + ")", decoder.symbolAt(x), symbols[x]);
            if (symbols[x] >= 0) {
                held++;
            }
        }
        due(where + ": received()", decoder.received(), held);
    }

    /** The list must have just these entries; each is {c0, c1, c2, agreement}. */
    static void list(String where, ListDecoder decoder, int[]... entries) {
        due(where + ": size()", decoder.size(), entries.length);
        for (int i = 0; i < entries.length; i++) {
            for (int degree = 0; degree < decoder.dimension(); degree++) {
                due(where + ": coefficient(" + i + ", " + degree + ")",
                        decoder.coefficient(i, degree), entries[i][degree]);
            }
            due(where + ": agreement(" + i + ")", decoder.agreement(i), entries[i][3]);
            due(where + ": find of entry " + i,
                    decoder.find(entries[i][0], entries[i][1], entries[i][2]), i);
        }
        due(where + ": agreement(" + entries.length + ")",
                decoder.agreement(entries.length), ListDecoder.BAD_INDEX);
    }

    static void end() {
        System.out.println(wrong == 0 ? asked + " answers are as due"
                : wrong + " of " + asked + " answers are not as due");
        if (wrong != 0) {
            System.exit(1);
        }
    }
}
