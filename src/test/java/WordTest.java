/** Promises 4 to 9: put, disturb, erase, write, symbolAt, received. */
final class WordTest {
    private static final int[] ENTRY = {2, 3, 0, 5};

    public static void main(String[] args) {
        putSetsOnePosition();
        putTakesEverySymbolAtEveryPosition();
        putRefuses();
        disturbAdds();
        disturbTakesEveryDelta();
        disturbRefuses();
        eraseErases();
        eraseRefuses();
        writeWritesMaskedPositions();
        writeTakesTheEdgesOfTheMask();
        writeWritesEveryCodeword();
        writeRefusesMessages();
        writeRefusesMasks();
        symbolAtRefuses();
        receivedCounts();
        Due.end();
    }

    /** A decoder with a list of one entry: length 6, dimension 2, word 2 5 8 11 1 and one erased position. */
    private static ListDecoder withList() {
        ListDecoder decoder = new ListDecoder(6, 2);
        Due.due("write(2, 3, 0, 31)", decoder.write(2, 3, 0, 31), 5);
        Due.due("decode(3)", decoder.decode(3), 1);
        return decoder;
    }

    private static void unchanged(String where, ListDecoder decoder) {
        Due.word(where, decoder, 2, 5, 8, 11, 1, -1);
        Due.list(where, decoder, ENTRY);
    }

    private static void noList(String where, ListDecoder decoder) {
        Due.due(where + ": size()", decoder.size(), ListDecoder.NO_LIST);
        Due.due(where + ": best()", decoder.best(), ListDecoder.NO_LIST);
        Due.due(where + ": agreement(0)", decoder.agreement(0), ListDecoder.NO_LIST);
    }

    private static void putSetsOnePosition() {
        ListDecoder decoder = withList();
        Due.due("put(5, 9) on an erased position", decoder.put(5, 9), ListDecoder.OK);
        Due.word("put on an erased position", decoder, 2, 5, 8, 11, 1, 9);
        noList("put on an erased position", decoder);

        decoder = withList();
        Due.due("put(1, 12) on another symbol", decoder.put(1, 12), ListDecoder.OK);
        Due.word("put on another symbol", decoder, 2, 12, 8, 11, 1, -1);
        noList("put on another symbol", decoder);

        decoder = withList();
        Due.due("put(0, 2) on the same symbol", decoder.put(0, 2), ListDecoder.OK);
        Due.word("put on the same symbol", decoder, 2, 5, 8, 11, 1, -1);
        noList("put on the same symbol", decoder);
    }

    private static void putTakesEverySymbolAtEveryPosition() {
        for (int length = 4; length <= 13; length++) {
            ListDecoder decoder = new ListDecoder(length, 1);
            for (int x = 0; x < length; x++) {
                for (int symbol = 0; symbol <= 12; symbol++) {
                    Due.due("put(" + x + ", " + symbol + ")", decoder.put(x, symbol), ListDecoder.OK);
                    Due.due("symbolAt(" + x + ")", decoder.symbolAt(x), symbol);
                    Due.due("received()", decoder.received(), x + 1);
                }
            }
        }
    }

    private static void putRefuses() {
        ListDecoder decoder = withList();
        for (int bad : Due.EXTREMES) {
            Due.due("put(" + bad + ", 0)", decoder.put(bad, 0), ListDecoder.BAD_POSITION);
            Due.due("put(" + bad + ", 13)", decoder.put(bad, 13), ListDecoder.BAD_POSITION);
            Due.due("put(0, " + bad + ")", decoder.put(0, bad), ListDecoder.BAD_SYMBOL);
        }
        for (int bad : new int[] {6, 7, 12, 13, 32, Integer.MAX_VALUE}) {
            Due.due("put(" + bad + ", 0)", decoder.put(bad, 0), ListDecoder.BAD_POSITION);
            Due.due("put(" + bad + ", -1)", decoder.put(bad, -1), ListDecoder.BAD_POSITION);
        }
        for (int bad : new int[] {13, 14, 26, Integer.MAX_VALUE}) {
            Due.due("put(0, " + bad + ")", decoder.put(0, bad), ListDecoder.BAD_SYMBOL);
            Due.due("put(5, " + bad + ")", decoder.put(5, bad), ListDecoder.BAD_SYMBOL);
        }
        unchanged("refused put", decoder);
    }

    private static void disturbAdds() {
        ListDecoder decoder = withList();
        Due.due("disturb(3, 4)", decoder.disturb(3, 4), 2);
        Due.word("disturb(3, 4)", decoder, 2, 5, 8, 2, 1, -1);
        noList("disturb(3, 4)", decoder);

        decoder = withList();
        Due.due("disturb(0, 0)", decoder.disturb(0, 0), 2);
        Due.word("disturb(0, 0)", decoder, 2, 5, 8, 11, 1, -1);
        noList("disturb(0, 0)", decoder);

        decoder = withList();
        Due.due("disturb(4, -13)", decoder.disturb(4, -13), 1);
        Due.word("disturb(4, -13)", decoder, 2, 5, 8, 11, 1, -1);
        noList("disturb(4, -13)", decoder);
    }

    private static void disturbTakesEveryDelta() {
        int[][] pairs = {{-1, 12}, {-13, 0}, {2147483647, 10}, {-2147483648, 2}};
        for (int[] pair : pairs) {
            disturbFromEverySymbol(pair[0], pair[1]);
        }
        for (int delta = -60; delta <= 60; delta++) {
            disturbFromEverySymbol(delta, Math.floorMod(delta, 13));
        }
        for (int step = 0; step < 30; step++) {
            disturbFromEverySymbol(Integer.MAX_VALUE - step, Math.floorMod(Integer.MAX_VALUE - step, 13));
            disturbFromEverySymbol(Integer.MIN_VALUE + step, Math.floorMod(Integer.MIN_VALUE + step, 13));
        }
    }

    private static void disturbFromEverySymbol(int delta, int r) {
        ListDecoder decoder = new ListDecoder(4, 1);
        for (int symbol = 0; symbol <= 12; symbol++) {
            decoder.put(2, symbol);
            Due.due("disturb(2, " + delta + ") on " + symbol, decoder.disturb(2, delta), (symbol + r) % 13);
            Due.word("disturb(2, " + delta + ") on " + symbol, decoder, -1, -1, (symbol + r) % 13, -1);
        }
    }

    private static void disturbRefuses() {
        ListDecoder decoder = withList();
        for (int bad : Due.EXTREMES) {
            Due.due("disturb(" + bad + ", 1)", decoder.disturb(bad, 1), ListDecoder.BAD_POSITION);
            Due.due("disturb(5, " + bad + ") on an erased position", decoder.disturb(5, bad), ListDecoder.NONE);
        }
        for (int bad : new int[] {6, 12, 13, Integer.MAX_VALUE}) {
            Due.due("disturb(" + bad + ", 1)", decoder.disturb(bad, 1), ListDecoder.BAD_POSITION);
        }
        Due.due("disturb(5, 0) on an erased position", decoder.disturb(5, 0), ListDecoder.NONE);
        Due.due("disturb(5, 1) on an erased position", decoder.disturb(5, 1), ListDecoder.NONE);
        unchanged("refused disturb", decoder);
    }

    private static void eraseErases() {
        ListDecoder decoder = withList();
        Due.due("erase(0)", decoder.erase(0), ListDecoder.OK);
        Due.word("erase(0)", decoder, -1, 5, 8, 11, 1, -1);
        noList("erase(0)", decoder);

        decoder = withList();
        Due.due("erase(5) on an erased position", decoder.erase(5), ListDecoder.OK);
        Due.word("erase(5) on an erased position", decoder, 2, 5, 8, 11, 1, -1);
        noList("erase(5) on an erased position", decoder);

        decoder = new ListDecoder(4, 3);
        Due.due("decode(1) of the erased word", decoder.decode(1), 0);
        Due.due("erase(0) with an empty list", decoder.erase(0), ListDecoder.OK);
        noList("erase(0) with an empty list", decoder);
    }

    private static void eraseRefuses() {
        ListDecoder decoder = withList();
        for (int bad : Due.EXTREMES) {
            Due.due("erase(" + bad + ")", decoder.erase(bad), ListDecoder.BAD_POSITION);
        }
        for (int bad : new int[] {6, 12, 13, Integer.MAX_VALUE}) {
            Due.due("erase(" + bad + ")", decoder.erase(bad), ListDecoder.BAD_POSITION);
        }
        unchanged("refused erase", decoder);
    }

    private static void writeWritesMaskedPositions() {
        ListDecoder decoder = withList();
        Due.due("write(12, 12, 0, 34)", decoder.write(12, 12, 0, 34), 2);
        Due.word("write on a held and an erased position", decoder, 2, 11, 8, 11, 1, 7);
        noList("write on a held and an erased position", decoder);

        decoder = withList();
        Due.due("write(2, 3, 0, 0)", decoder.write(2, 3, 0, 0), 0);
        Due.word("write with mask 0", decoder, 2, 5, 8, 11, 1, -1);
        noList("write with mask 0", decoder);

        decoder = withList();
        Due.due("write(2, 3, 0, 31)", decoder.write(2, 3, 0, 31), 5);
        Due.word("write of the same symbols", decoder, 2, 5, 8, 11, 1, -1);
        noList("write of the same symbols", decoder);
    }

    private static void writeTakesTheEdgesOfTheMask() {
        for (int length = 4; length <= 13; length++) {
            ListDecoder decoder = new ListDecoder(length, 3);
            int full = (1 << length) - 1;
            Due.due("write with the highest bit alone", decoder.write(1, 2, 3, 1 << (length - 1)), 1);
            Due.due("received()", decoder.received(), 1);
            Due.due("write with mask " + (full + 1), decoder.write(1, 2, 3, full + 1), ListDecoder.BAD_MASK);
            Due.due("received()", decoder.received(), 1);
            Due.due("write with mask " + full, decoder.write(1, 2, 3, full), length);
            Due.due("received()", decoder.received(), length);
        }
    }

    private static void writeWritesEveryCodeword() {
        ListDecoder decoder = new ListDecoder(13, 3);
        for (int message = 0; message < 13 * 13 * 13; message++) {
            int c0 = message / 169;
            int c1 = message / 13 % 13;
            int c2 = message % 13;
            Due.due("write of message " + message, decoder.write(c0, c1, c2, 8191), 13);
            for (int x = 0; x < 13; x++) {
                Due.due("symbolAt(" + x + ") of message " + message, decoder.symbolAt(x),
                        Math.floorMod(c0 + x * (c1 + x * c2), 13));
            }
        }
    }

    private static void writeRefusesMessages() {
        ListDecoder decoder = withList();
        for (int bad : new int[] {Integer.MIN_VALUE, -13, -1, 13, 14, Integer.MAX_VALUE}) {
            for (int mask : new int[] {1, -1, 64}) {
                Due.due("write(" + bad + ", 0, 0, " + mask + ")", decoder.write(bad, 0, 0, mask),
                        ListDecoder.BAD_MESSAGE);
                Due.due("write(0, " + bad + ", 0, " + mask + ")", decoder.write(0, bad, 0, mask),
                        ListDecoder.BAD_MESSAGE);
                Due.due("write(0, 0, " + bad + ", " + mask + ")", decoder.write(0, 0, bad, mask),
                        ListDecoder.BAD_MESSAGE);
            }
        }
        Due.due("write(0, 0, 1, 1) for k = 2", decoder.write(0, 0, 1, 1), ListDecoder.BAD_MESSAGE);
        Due.due("write(0, 0, 12, 1) for k = 2", decoder.write(0, 0, 12, 1), ListDecoder.BAD_MESSAGE);
        unchanged("refused write", decoder);

        ListDecoder one = new ListDecoder(4, 1);
        Due.due("write(0, 1, 0, 1) for k = 1", one.write(0, 1, 0, 1), ListDecoder.BAD_MESSAGE);
        Due.due("write(0, 0, 1, 1) for k = 1", one.write(0, 0, 1, 1), ListDecoder.BAD_MESSAGE);
        Due.due("write(12, 0, 0, 1) for k = 1", one.write(12, 0, 0, 1), 1);

        ListDecoder three = new ListDecoder(4, 3);
        for (int bad : new int[] {Integer.MIN_VALUE, -1, 13, Integer.MAX_VALUE}) {
            Due.due("write(0, 0, " + bad + ", 1) for k = 3", three.write(0, 0, bad, 1), ListDecoder.BAD_MESSAGE);
            Due.due("write(0, " + bad + ", 0, 1) for k = 3", three.write(0, bad, 0, 1), ListDecoder.BAD_MESSAGE);
            Due.due("write(" + bad + ", 0, 0, 1) for k = 3", three.write(bad, 0, 0, 1), ListDecoder.BAD_MESSAGE);
        }
        Due.due("write(12, 12, 12, 1) for k = 3", three.write(12, 12, 12, 1), 1);
    }

    private static void writeRefusesMasks() {
        ListDecoder decoder = withList();
        for (int bad : Due.EXTREMES) {
            Due.due("write with mask " + bad, decoder.write(1, 1, 0, bad), ListDecoder.BAD_MASK);
        }
        for (int bad : new int[] {64, 65, 127, 8191, 8192, 1 << 30, Integer.MAX_VALUE}) {
            Due.due("write with mask " + bad, decoder.write(1, 1, 0, bad), ListDecoder.BAD_MASK);
        }
        unchanged("write with a bad mask", decoder);
    }

    private static void symbolAtRefuses() {
        ListDecoder decoder = withList();
        for (int bad : Due.EXTREMES) {
            Due.due("symbolAt(" + bad + ")", decoder.symbolAt(bad), ListDecoder.BAD_POSITION);
        }
        for (int bad : new int[] {6, 7, 12, 13, Integer.MAX_VALUE}) {
            Due.due("symbolAt(" + bad + ")", decoder.symbolAt(bad), ListDecoder.BAD_POSITION);
        }
        Due.due("symbolAt(5) on an erased position", decoder.symbolAt(5), ListDecoder.NONE);
        Due.due("symbolAt(0)", decoder.symbolAt(0), 2);
        unchanged("symbolAt", decoder);
    }

    private static void receivedCounts() {
        ListDecoder decoder = withList();
        Due.due("received()", decoder.received(), 5);
        unchanged("received", decoder);
        for (int length = 4; length <= 13; length++) {
            decoder = new ListDecoder(length, 2);
            for (int x = length - 1; x >= 0; x--) {
                decoder.put(x, 0);
                Due.due("received() after put(" + x + ", 0)", decoder.received(), length - x);
            }
            for (int x = 0; x < length; x++) {
                decoder.erase(x);
                Due.due("received() after erase(" + x + ")", decoder.received(), length - 1 - x);
            }
        }
    }
}
