import java.util.Arrays;
import java.util.stream.IntStream;

/** Numbers at and around the ends of what may be. */
final class Edges {
    static final int LEAST = Integer.MIN_VALUE;
    static final int MOST = Integer.MAX_VALUE;

    private Edges() {
    }

    /** Numbers that may be: both ends, their neighbours, the middle. */
    static int[] inside(int low, int high) {
        return IntStream.of(low, low + 1, low + (high - low) / 2, high - 1, high)
                .filter(n -> n >= low && n <= high).distinct().toArray();
    }

    /** Numbers that may not be: the next ones, the last ints, and such as look right with bits lost. */
    static int[] outside(int low, int high) {
        IntStream near = IntStream.of(low - 1, low - 2, high + 1, high + 2, -high, ~high);
        IntStream lost = IntStream.of(low, high).flatMap(n -> IntStream.of(n + 256, n - 256,
                n + 65536, n - 65536, n + (1 << 24), n + (1 << 30), n + LEAST, MOST - n));
        IntStream last = IntStream.of(LEAST, LEAST + 1, MOST, MOST - 1);
        return IntStream.concat(near, IntStream.concat(lost, last))
                .filter(n -> n < low || n > high).distinct().toArray();
    }

    static boolean isTableSize(int number) {
        return Arrays.asList(0, 2, 4, 8, 16, 32, 64, 128, 256).contains(number);
    }

    /** The WIDTH of an IMAGE of so many places, each side at most 64; 0 where there is none. */
    static int widthOf(int places) {
        for (int width = 64; width >= 1; width--) {
            if (places % width == 0 && places / width <= 64) {
                return places >= 1 ? width : 0;
            }
        }
        return 0;
    }
}
