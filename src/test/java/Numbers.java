import java.util.Arrays;

/** Numbers outside of what a call takes: next to the bound, far from it, and such that lose their high bits easily. */
final class Numbers {
    static final int[] BELOW_ZERO = {-1, -2, -12, -13, -14, -256, -8192, -65536,
        Integer.MIN_VALUE + 1, Integer.MIN_VALUE};
    private static final int[] GREAT = {13, 14, 26, 31, 32, 33, 256, 8191, 8192, 65536, 1 << 30,
        Integer.MAX_VALUE - 1, Integer.MAX_VALUE};

    private Numbers() {
    }

    /** The bound itself, the next one, and great numbers. */
    static int[] from(int bound) {
        int[] numbers = Arrays.copyOf(GREAT, GREAT.length + 2);
        numbers[GREAT.length] = bound;
        numbers[GREAT.length + 1] = bound + 1;
        return Arrays.stream(numbers).filter(number -> number >= bound).distinct().toArray();
    }

    /** All that lies outside 0..bound-1. */
    static int[] outside(int bound) {
        int[] above = from(bound);
        int[] numbers = Arrays.copyOf(BELOW_ZERO, BELOW_ZERO.length + above.length);
        System.arraycopy(above, 0, numbers, BELOW_ZERO.length, above.length);
        return numbers;
    }
}
