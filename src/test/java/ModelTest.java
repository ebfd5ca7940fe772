/** Long runs of calls of every kind, each answer compared with the model's; all promises together. */
final class ModelTest {
    private static final int[] ODD = {Integer.MIN_VALUE, -2147483647, -14, -13, -12, -3, -2, -1, 0, 1, 2, 3, 4, 12,
        13, 14, 26, 8191, 8192, 2147483646, Integer.MAX_VALUE};
    private static final int CALLS = 600;
    private static final int ROUNDS = 6;

    // A fixed sequence: the runs are the same every time.
    private static long state = 20261115L;

    private static ListDecoder decoder;
    private static Model model;
    private static String run;

    public static void main(String[] args) {
        for (int round = 0; round < ROUNDS; round++) {
            for (int n = 4; n <= 13; n++) {
                for (int k = 1; k <= 3; k++) {
                    decoder = new ListDecoder(n, k);
                    model = new Model(n, k);
                    run = "round " + round + ", n " + n + ", k " + k + ", call ";
                    for (int call = 0; call < CALLS; call++) {
                        step(call);
                    }
                }
            }
        }
        Due.end();
    }

    private static int below(int bound) {
        state = state * 6364136223846793005L + 1442695040888963407L;
        return (int) ((state >>> 33) % bound);
    }

    /** Mostly a number below the bound, now and then an odd one. */
    private static int some(int bound) {
        return below(12) == 0 ? ODD[below(ODD.length)] : below(bound);
    }

    private static int coefficientOf(int degree) {
        return degree < model.k ? some(13) : some(1);
    }

    private static void step(int call) {
        String where = run + call + ": ";
        switch (below(13)) {
            case 0, 1 -> put(where);
            case 2 -> disturb(where);
            case 3 -> erase(where);
            case 4, 5 -> write(where);
            case 6 -> correct(where);
            case 7 -> find(where);
            default -> decode(where);
        }
        compareState(where);
    }

    private static void put(String where) {
        int position = some(model.n);
        int symbol = some(13);
        Due.due(where + "put(" + position + ", " + symbol + ")",
                decoder.put(position, symbol), model.put(position, symbol));
    }

    private static void disturb(String where) {
        int position = some(model.n);
        int delta = below(2) == 0 ? below(27) - 13 : ODD[below(ODD.length)];
        Due.due(where + "disturb(" + position + ", " + delta + ")",
                decoder.disturb(position, delta), model.disturb(position, delta));
    }

    private static void erase(String where) {
        int position = some(model.n);
        Due.due(where + "erase(" + position + ")", decoder.erase(position), model.erase(position));
    }

    private static void write(String where) {
        int c0 = coefficientOf(0);
        int c1 = coefficientOf(1);
        int c2 = coefficientOf(2);
        int mask = some(1 << model.n);
        Due.due(where + "write(" + c0 + ", " + c1 + ", " + c2 + ", " + mask + ")",
                decoder.write(c0, c1, c2, mask), model.write(c0, c1, c2, mask));
    }

    private static void correct(String where) {
        int index = some(model.size() > 0 ? model.size() : 2);
        Due.due(where + "correct(" + index + ")", decoder.correct(index), model.correct(index));
    }

    private static void find(String where) {
        int c0 = coefficientOf(0);
        int c1 = coefficientOf(1);
        int c2 = coefficientOf(2);
        Due.due(where + "find(" + c0 + ", " + c1 + ", " + c2 + ")",
                decoder.find(c0, c1, c2), model.find(c0, c1, c2));
    }

    private static void decode(String where) {
        int threshold = below(8) == 0 ? ODD[below(ODD.length)] : model.lowestThreshold() + below(3) - below(2);
        Due.due(where + "decode(" + threshold + ")", decoder.decode(threshold), model.decode(threshold));
    }

    private static void compareState(String where) {
        Due.due(where + "length()", decoder.length(), model.n);
        Due.due(where + "dimension()", decoder.dimension(), model.k);
        Due.due(where + "received()", decoder.received(), model.received());
        Due.due(where + "lowestThreshold()", decoder.lowestThreshold(), model.lowestThreshold());
        Due.due(where + "size()", decoder.size(), model.size());
        Due.due(where + "best()", decoder.best(), model.best());
        for (int x = -1; x <= model.n; x++) {
            Due.due(where + "symbolAt(" + x + ")", decoder.symbolAt(x), model.symbolAt(x));
        }
        for (int index = -1; index <= Math.max(0, model.size()); index++) {
            Due.due(where + "agreement(" + index + ")", decoder.agreement(index), model.agreement(index));
            for (int degree = -1; degree <= 3; degree++) {
                Due.due(where + "coefficient(" + index + ", " + degree + ")",
                        decoder.coefficient(index, degree), model.coefficient(index, degree));
            }
        }
        compareFind(where);
    }

    private static void compareFind(String where) {
        if (model.list == null) {
            return;
        }
        for (int[] entry : model.list) {
            Due.due(where + "find of an entry", decoder.find(entry[0], entry[1], entry[2]),
                    model.find(entry[0], entry[1], entry[2]));
        }
    }
}
