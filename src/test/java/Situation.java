import java.util.ArrayList;
import java.util.List;

/**
 * A state of a decoder that calls lead to, with the word (-1 for an erased
 * position) and the entries {c0, c1, c2, agreement} that it must have then;
 * entries are null if there must be no list.
 */
record Situation(String name, int n, int k, int[] word, int[][] entries, Call... calls) {
    private static final int[][] PART = {
        {2, 2, 2, 2, 2, -1}, {2, 5, 8, 11, 1, -1}, {2, 9, 11, 8, 0, -1}};
    private static final int[][] FULL = {
        {7, 7, 7, 7, 7, 7, 7, 7, 7}, {12, 10, 8, 6, 4, 2, 0, 11, 9}, {1, 5, 6, 4, 12, 4, 6, 5, 1}};
    private static final int[][] TWO = {
        {8, 8, 8, 8, 8, 1, 1, 1, 1, -1}, {8, 10, 12, 1, 3, 0, 5, 10, 2, -1},
        {5, 5, 6, 8, 11, 2, 4, 5, 9, 3, -1, -1, -1}};
    private static final int[][][] TWO_ENTRIES = {
        {{1, 0, 0, 4}, {8, 0, 0, 5}}, {{1, 5, 0, 4}, {8, 2, 0, 5}}, {{5, 6, 7, 6}, {9, 1, 8, 6}}};
    private static final int[][] NO_ENTRIES = {};

    ListDecoder make() {
        ListDecoder decoder = new ListDecoder(n, k);
        for (Call call : calls) {
            call.on(decoder);
        }
        return decoder;
    }

    boolean hasList() {
        return entries != null;
    }

    /** The size that is due: NO_LIST if there must be no list. */
    int size() {
        return entries == null ? ListDecoder.NO_LIST : entries.length;
    }

    /** The word with another symbol at one position. */
    int[] wordWith(int position, int symbol) {
        int[] other = word.clone();
        other[position] = symbol;
        return other;
    }

    static List<Situation> all() {
        List<Situation> all = new ArrayList<>();
        for (int k = 1; k <= 3; k++) {
            addErased(all, k);
            addPart(all, k);
            addFull(all, k);
            addTwo(all, k);
        }
        all.add(thirteenEntries());
        return all;
    }

    static List<Situation> withoutList() {
        return all().stream().filter(situation -> !situation.hasList()).toList();
    }

    static List<Situation> withEmptyList() {
        return all().stream().filter(situation -> situation.size() == 0).toList();
    }

    static List<Situation> withList() {
        return all().stream().filter(Situation::hasList).toList();
    }

    static List<Situation> withEntries() {
        return all().stream().filter(situation -> situation.size() > 0).toList();
    }

    static Situation thirteenEntries() {
        Call[] calls = new Call[14];
        int[] word = new int[13];
        int[][] entries = new int[13][];
        for (int x = 0; x < 13; x++) {
            calls[x] = Call.put(x, 12 - x);
            word[x] = 12 - x;
            entries[x] = new int[] {x, 0, 0, 1};
        }
        calls[13] = Call.decode(1);
        return new Situation("a list of thirteen", 13, 1, word, entries, calls);
    }

    private static void addErased(List<Situation> all, int k) {
        all.add(new Situation("the start, k " + k, 4, k, erased(4), null));
        all.add(new Situation("the erased word with its empty list, k " + k, 13, k, erased(13), NO_ENTRIES,
                Call.decode(1)));
    }

    private static void addPart(List<Situation> all, int k) {
        int[] message = message(k, 2, 3, 4);
        int[][] one = {{message[0], message[1], message[2], 5}};
        Call write = Call.write(message[0], message[1], message[2], 31);
        all.add(new Situation("five of six, k " + k, 6, k, PART[k - 1], null, write));
        all.add(new Situation("five of six with a list, k " + k, 6, k, PART[k - 1], one, write, Call.decode(5)));
        all.add(new Situation("five of six with an empty list, k " + k, 6, k, PART[k - 1], NO_ENTRIES, write,
                Call.decode(6)));
    }

    private static void addFull(List<Situation> all, int k) {
        int[] message = k == 1 ? new int[] {7, 0, 0} : k == 2 ? new int[] {12, 11, 0} : new int[] {1, 12, 5};
        int[][] one = {{message[0], message[1], message[2], 9}};
        Call write = Call.write(message[0], message[1], message[2], 511);
        all.add(new Situation("a whole codeword, k " + k, 9, k, FULL[k - 1], null, write));
        all.add(new Situation("a whole codeword with its list, k " + k, 9, k, FULL[k - 1], one, write,
                Call.decode(9)));
    }

    /** Lists of two, and what is left when such a list goes or becomes empty. */
    private static void addTwo(List<Situation> all, int k) {
        int[][] two = TWO_ENTRIES[k - 1];
        int[] word = TWO[k - 1];
        int n = word.length;
        int later = k == 3 ? 0 : 1;
        int[] first = two[later];
        int[] second = two[1 - later];
        Call one = Call.write(first[0], first[1], first[2], k == 3 ? 63 : 31);
        Call other = Call.write(second[0], second[1], second[2], k == 3 ? 960 : 480);
        Call decode = Call.decode(k == 3 ? 6 : 4);
        all.add(new Situation("a list of two, k " + k, n, k, word, two, one, other, decode));
        all.add(new Situation("a list of two gone, k " + k, n, k, word, null, one, other, decode, Call.erase(n - 1)));
        all.add(new Situation("a list of two become empty, k " + k, n, k, word, NO_ENTRIES, one, other, decode,
                Call.decode(Integer.MAX_VALUE)));
    }

    private static int[] erased(int n) {
        int[] word = new int[n];
        java.util.Arrays.fill(word, -1);
        return word;
    }

    /** The message with the first k of three coefficients. */
    private static int[] message(int k, int c0, int c1, int c2) {
        return new int[] {c0, k >= 2 ? c1 : 0, k >= 3 ? c2 : 0};
    }
}
