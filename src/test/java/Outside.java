/**
 * Whole numbers outside a range: its nearest neighbours, the ends of int, and such as a mask or a
 * wrap-around would take for one inside.
 */
final class Outside {
    private Outside() {
    }

    static int[] of(int low, int high) {
        return new int[] {
            low - 1, low - 2, high + 1, high + 2,
            low - 16, high + 16, low - 32, low + 32, high + 32, low + 64, high + 64,
            low - 256, low + 256, high + 256,
            low + 65536, high + 65536, -65536, 1 << 30,
            Integer.MIN_VALUE, Integer.MIN_VALUE + 1, Integer.MIN_VALUE + high,
            Integer.MAX_VALUE, Integer.MAX_VALUE - 1
        };
    }
}
