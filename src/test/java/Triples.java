import java.util.ArrayList;
import java.util.List;

/** Triples (c0, c1, c2) that are messages of a dimension, and such that are not. */
final class Triples {
    private Triples() {
    }

    /** Every triple with one coefficient below 0 and messages' coefficients else. */
    static List<int[]> belowZero(int k) {
        List<int[]> triples = new ArrayList<>();
        for (int bad : Numbers.BELOW_ZERO) {
            addWithOne(triples, k, bad);
        }
        return triples;
    }

    /** Every triple with one coefficient above 12 and messages' coefficients else. */
    static List<int[]> aboveTwelve(int k) {
        List<int[]> triples = new ArrayList<>();
        for (int bad : Numbers.from(13)) {
            addWithOne(triples, k, bad);
        }
        return triples;
    }

    /** Triples of symbols with some ci that is not 0 though i >= k; none for k = 3. */
    static List<int[]> tooLong(int k) {
        List<int[]> triples = new ArrayList<>();
        for (int symbol = 1; symbol <= 12; symbol++) {
            if (k < 3) {
                triples.add(new int[] {0, 0, symbol});
                triples.add(new int[] {12, k >= 2 ? 12 : 0, symbol});
            }
            if (k < 2) {
                triples.add(new int[] {0, symbol, 0});
                triples.add(new int[] {12, symbol, 0});
                triples.add(new int[] {2, symbol, symbol});
            }
        }
        return triples;
    }

    static List<int[]> noMessages(int k) {
        List<int[]> triples = new ArrayList<>(belowZero(k));
        triples.addAll(aboveTwelve(k));
        triples.addAll(tooLong(k));
        return triples;
    }

    /** All messages, in the order of the list. */
    static List<int[]> messages(int k) {
        List<int[]> triples = new ArrayList<>();
        for (int c0 = 0; c0 <= 12; c0++) {
            for (int c1 = 0; c1 <= (k >= 2 ? 12 : 0); c1++) {
                for (int c2 = 0; c2 <= (k >= 3 ? 12 : 0); c2++) {
                    triples.add(new int[] {c0, c1, c2});
                }
            }
        }
        return triples;
    }

    private static void addWithOne(List<int[]> triples, int k, int bad) {
        int c1 = k >= 2 ? 12 : 0;
        int c2 = k >= 3 ? 12 : 0;
        triples.add(new int[] {bad, 0, 0});
        triples.add(new int[] {bad, c1, c2});
        triples.add(new int[] {0, bad, 0});
        triples.add(new int[] {12, bad, c2});
        triples.add(new int[] {0, 0, bad});
        triples.add(new int[] {12, c1, bad});
    }
}
