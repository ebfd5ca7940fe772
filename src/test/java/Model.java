import java.util.ArrayList;
import java.util.Arrays;
import java.util.List;
import java.util.TreeMap;

/**
 * The document told a second time, by other means than the program's: a list
 * is found by drawing the curve through every k positions that are held.
 */
final class Model {
    static final int[][] LOWEST = {
        {1, 1, 1, 1, 1, 1, 1, 1, 1, 1, 1, 1, 1, 1},
        {1, 2, 2, 3, 3, 3, 4, 4, 4, 4, 5, 5, 5, 5},
        {1, 2, 3, 3, 4, 4, 5, 5, 5, 6, 6, 6, 7, 7}};

    final int n;
    final int k;
    final Integer[] word;
    List<int[]> list = null;

    Model(int length, int dimension) {
        n = Math.min(13, Math.max(4, length));
        k = Math.min(3, Math.max(1, dimension));
        word = new Integer[n];
    }

    int received() {
        return (int) Arrays.stream(word).filter(symbol -> symbol != null).count();
    }

    int lowestThreshold() {
        return LOWEST[k - 1][received()];
    }

    int put(int position, int symbol) {
        if (outside(position, n)) {
            return -2;
        }
        if (outside(symbol, 13)) {
            return -3;
        }
        word[position] = symbol;
        list = null;
        return 0;
    }

    int disturb(int position, int delta) {
        if (outside(position, n)) {
            return -2;
        }
        if (word[position] == null) {
            return -1;
        }
        word[position] = (int) Math.floorMod((long) word[position] + delta, 13L);
        list = null;
        return word[position];
    }

    int erase(int position) {
        if (outside(position, n)) {
            return -2;
        }
        word[position] = null;
        list = null;
        return 0;
    }

    int write(int c0, int c1, int c2, int mask) {
        if (!isMessage(c0, c1, c2)) {
            return -4;
        }
        if (outside(mask, 1 << n)) {
            return -5;
        }
        for (int x = 0; x < n; x++) {
            if ((mask & 1 << x) != 0) {
                word[x] = value(new int[] {c0, c1, c2}, x);
            }
        }
        list = null;
        return Integer.bitCount(mask);
    }

    int symbolAt(int position) {
        if (outside(position, n)) {
            return -2;
        }
        return word[position] == null ? -1 : word[position];
    }

    int decode(int threshold) {
        if (threshold < lowestThreshold()) {
            return -6;
        }
        TreeMap<Integer, int[]> found = new TreeMap<>();
        int[] held = held();
        for (int a = 0; a < held.length; a++) {
            for (int b = k >= 2 ? a + 1 : a; b < (k >= 2 ? held.length : a + 1); b++) {
                for (int c = k >= 3 ? b + 1 : b; c < (k >= 3 ? held.length : b + 1); c++) {
                    int[] entry = curve(held[a], held[b], held[c]);
                    if (entry[3] >= threshold) {
                        found.put((entry[0] * 13 + entry[1]) * 13 + entry[2], entry);
                    }
                }
            }
        }
        list = new ArrayList<>(found.values());
        return list.size();
    }

    int size() {
        return list == null ? -7 : list.size();
    }

    int coefficient(int index, int degree) {
        if (list == null) {
            return -7;
        }
        if (outside(index, list.size())) {
            return -8;
        }
        return outside(degree, k) ? -9 : list.get(index)[degree];
    }

    int agreement(int index) {
        if (list == null) {
            return -7;
        }
        return outside(index, list.size()) ? -8 : list.get(index)[3];
    }

    int find(int c0, int c1, int c2) {
        if (list == null) {
            return -7;
        }
        if (!isMessage(c0, c1, c2)) {
            return -4;
        }
        for (int[] entry : list) {
            if (entry[0] == c0 && entry[1] == c1 && entry[2] == c2) {
                return list.indexOf(entry);
            }
        }
        return -1;
    }

    int best() {
        if (list == null) {
            return -7;
        }
        int greatest = list.stream().mapToInt(entry -> entry[3]).max().orElse(0);
        for (int i = 0; i < list.size(); i++) {
            if (list.get(i)[3] == greatest) {
                return i;
            }
        }
        return -1;
    }

    int correct(int index) {
        if (list == null) {
            return -7;
        }
        if (outside(index, list.size())) {
            return -8;
        }
        int[] entry = list.get(index);
        int changed = 0;
        for (int x = 0; x < n; x++) {
            Integer symbol = value(entry, x);
            if (!symbol.equals(word[x])) {
                changed++;
            }
            word[x] = symbol;
        }
        list = null;
        return changed;
    }

    private static boolean outside(int value, int bound) {
        return value < 0 || value >= bound;
    }

    private boolean isMessage(int c0, int c1, int c2) {
        int[] triple = {c0, c1, c2};
        for (int i = 0; i < 3; i++) {
            if (outside(triple[i], i < k ? 13 : 1)) {
                return false;
            }
        }
        return true;
    }

    private static int value(int[] message, int x) {
        return Math.floorMod(message[0] + x * (message[1] + x * message[2]), 13);
    }

    private int[] held() {
        int[] held = new int[received()];
        int next = 0;
        for (int x = 0; x < n; x++) {
            if (word[x] != null) {
                held[next++] = x;
            }
        }
        return held;
    }

    /** The message through the first k of three positions, by divided differences, with its agreement. */
    private int[] curve(int a, int b, int c) {
        int slope = k < 2 ? 0 : quotient(word[b] - word[a], b - a);
        int bend = k < 3 ? 0 : quotient(quotient(word[c] - word[b], c - b) - slope, c - a);
        int[] entry = {
            Math.floorMod(word[a] - slope * a + bend * a * b, 13),
            Math.floorMod(slope - bend * (a + b), 13),
            bend,
            0};
        for (int x = 0; x < n; x++) {
            if (word[x] != null && word[x] == value(entry, x)) {
                entry[3]++;
            }
        }
        return entry;
    }

    private static int quotient(int above, int below) {
        for (int q = 0; q < 13; q++) {
            if (Math.floorMod(q * below - above, 13) == 0) {
                return q;
            }
        }
        throw new IllegalArgumentException("division by zero");
    }
}
