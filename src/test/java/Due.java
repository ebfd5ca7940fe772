/** Compares answers with the ones that are due, and ends a test with 1 if one was wrong. */
final class Due {
    private static String sentence = "";
    private static int sentences = 0;
    private static long asked = 0;
    private static long wrong = 0;

    private Due() {
    }

    /** Runs the test of one sentence of the document; each wrong answer is printed together with it. */
    static void sentence(String text, Runnable test) {
        sentence = text + " | ";
        sentences++;
        long before = asked;
        try {
            test.run();
        } catch (RuntimeException thrown) {
            // The sentences that follow are still worth their tests.
            wrong++;
            System.out.println(sentence + "threw " + thrown);
        }
        if (asked == before) {
            wrong++;
            System.out.println(sentence + "its test asks nothing");
        }
    }

    static void due(String call, long got, long want) {
        asked++;
        if (got != want) {
            wrong++;
            System.out.println(sentence + call + " answered " + got + ", due is " + want);
        }
    }

    static void answer(ListDecoder decoder, Call call, int want) {
        due(call.text(), call.on(decoder), want);
    }

    /** The word must be the given one; -1 stands for an erased position. */
    static void word(String where, ListDecoder decoder, int... symbols) {
        due(where + ": length()", decoder.length(), symbols.length);
        for (int x = 0; x < symbols.length; x++) {
            due(where + ": symbolAt(" + x + ")", decoder.symbolAt(x), symbols[x]);
        }
        due(where + ": received()", decoder.received(), held(symbols));
    }

    /** The list must have just these entries; each is {c0, c1, c2, agreement}. */
    static void list(String where, ListDecoder decoder, int[]... entries) {
        due(where + ": size()", decoder.size(), entries.length);
        for (int i = 0; i < entries.length; i++) {
            int[] entry = entries[i];
            for (int degree = 0; degree < decoder.dimension(); degree++) {
                due(where + ": coefficient(" + i + ", " + degree + ")",
                        decoder.coefficient(i, degree), entry[degree]);
            }
            due(where + ": agreement(" + i + ")", decoder.agreement(i), entry[3]);
            due(where + ": find of entry " + i, decoder.find(entry[0], entry[1], entry[2]), i);
        }
        due(where + ": agreement(" + entries.length + ")",
                decoder.agreement(entries.length), ListDecoder.BAD_INDEX);
    }

    static void noList(String where, ListDecoder decoder) {
        due(where + ": size()", decoder.size(), ListDecoder.NO_LIST);
        due(where + ": coefficient(0, 0)", decoder.coefficient(0, 0), ListDecoder.NO_LIST);
        due(where + ": agreement(0)", decoder.agreement(0), ListDecoder.NO_LIST);
        due(where + ": find(0, 0, 0)", decoder.find(0, 0, 0), ListDecoder.NO_LIST);
        due(where + ": best()", decoder.best(), ListDecoder.NO_LIST);
        due(where + ": correct(0)", decoder.correct(0), ListDecoder.NO_LIST);
    }

    /** Word and list must be those of the situation. */
    static void unchanged(String where, ListDecoder decoder, Situation situation) {
        due(where + ": dimension()", decoder.dimension(), situation.k());
        word(where, decoder, situation.word());
        if (situation.hasList()) {
            list(where, decoder, situation.entries());
        } else {
            noList(where, decoder);
        }
    }

    /** The call, made in the situation, must answer this and change nothing. */
    static void keeps(Situation situation, Call call, int want) {
        ListDecoder decoder = situation.make();
        String where = call.text() + " on " + situation.name();
        due(where, call.on(decoder), want);
        unchanged(where, decoder, situation);
    }

    /** The call, made in the situation, must answer this and leave this word and no list. */
    static void takes(Situation situation, Call call, int want, int... word) {
        ListDecoder decoder = situation.make();
        String where = call.text() + " on " + situation.name();
        due(where, call.on(decoder), want);
        due(where + ": dimension()", decoder.dimension(), situation.k());
        word(where, decoder, word);
        noList(where, decoder);
    }

    static int held(int... symbols) {
        int held = 0;
        for (int symbol : symbols) {
            if (symbol >= 0) {
                held++;
            }
        }
        return held;
    }

    static void end() {
        System.out.println((sentences == 0 ? "" : sentences + " sentences: ") + (wrong == 0
                ? asked + " answers are as due" : wrong + " of " + asked + " answers are not as due"));
        if (wrong != 0) {
            System.exit(1);
        }
    }
}
