import java.util.Arrays;

/** Arguments beyond the edges that the document names: just outside, far outside, and such as wrap around. */
final class Edges {
    private static final int MAX = Integer.MAX_VALUE;
    private static final int MIN = Integer.MIN_VALUE;

    // As numbers of fewer bits 32, 256 and 65536 would be good, and 40 times 1 << 29 wraps around to 0.
    static final int[] BAD_OWNERS = {-1, 5, 6, 32, 256, 65536, 1 << 29, MAX, MIN, MIN + 1};
    static final int[] BAD_BYTES = {-1, 40, 41, 80, 256, 65536, MAX, MIN, MIN + 1};
    static final int[] BAD_TYPES = {-1, 3, 4, 256, 65536, MAX, MIN, MIN + 1};

    // Each pair is a start and a length; as far as that can be, it fails the one test it is listed for.
    static final int[][] TOO_SHORT = {
        {0, 0}, {20, 0}, {40, 0}, {0, -1}, {5, -5}, {40, -1}, {0, MIN}, {39, MIN}, {MIN, MIN}};
    static final int[][] TOO_LONG = {{-1, 41}, {-2, 42}, {-20, 60}, {0, 41}, {0, 256 + 1}, {MIN, MAX}, {0, MAX}};
    static final int[][] TOO_EARLY = {{-1, 1}, {-1, 2}, {-1, 40}, {-40, 40}, {MIN, 1}, {MIN, 40}, {MIN + 39, 1}};
    static final int[][] TOO_LATE = {{40, 1}, {39, 2}, {1, 40}, {20, 21}, {41, 1}, {40, 40}, {256, 1}, {65536, 40}};
    // Here start + length wraps around to a number that is at most 40.
    static final int[][] WRAPPING = {
        {MAX, 1}, {MAX, 40}, {MAX - 38, 39}, {MAX - 39, 40}, {MAX, 41}, {1, MAX}, {MAX, MAX}};

    static final int[][] BAD_RANGES = joined(TOO_SHORT, TOO_LONG, TOO_EARLY, TOO_LATE, WRAPPING);
    static final int[][] GOOD_RANGES = {{0, 1}, {39, 1}, {0, 40}, {0, 39}, {1, 39}, {38, 2}, {20, 20}};

    private Edges() {
    }

    private static int[][] joined(int[][]... parts) {
        return Arrays.stream(parts).flatMap(Arrays::stream).toArray(int[][]::new);
    }
}
