import java.util.stream.IntStream;

/**
 * Arguments that are not good: next to the bounds, far from them, and such as
 * come out good if arithmetic on them wraps around or is cut to fewer bits.
 */
final class Wrong {
    private Wrong() {
    }

    private static final int LEAST = Integer.MIN_VALUE;
    private static final int GREATEST = Integer.MAX_VALUE;

    /** 10 * 429496730 wraps around to 4, 5 * 858993460 too; 1 << 32 is 1; 256 and 65536 end in zero bits. */
    static final int[] PACKS = {
        -1, 5, 6, 9, 10, -4, 32, 33, 256, 65536, 429496730, -429496730, 858993460, LEAST, LEAST + 1, GREATEST};

    static final int[] VERSIONS = {
        0, 10, 11, -1, -9, 32, 257, 65537, 429496730, LEAST, LEAST + 1, GREATEST};

    static final int[] PATHS = {
        -1, 256, 257, 511, 512, 65536, 65537, -255, -256, LEAST, LEAST + 1, GREATEST};

    /** Numbers that no range is written as. */
    static final int[] RANGES = IntStream.concat(
        IntStream.rangeClosed(-130, 1100).filter(range -> !isRange(range)),
        IntStream.of(LEAST, LEAST + 1, LEAST + 9, GREATEST, GREATEST - 8, 65536 + 19, -256 + 19)
    ).toArray();

    static boolean isRange(int number) {
        for (int lo = 1; lo <= 9; lo++) {
            for (int hi = lo; hi <= 9; hi++) {
                if (number == 10 * lo + hi) {
                    return true;
                }
            }
        }
        return false;
    }
}
