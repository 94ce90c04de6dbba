import java.util.stream.IntStream;

/** Numbers that are not as the document says. */
final class Outside {
    /**
     * The least and the greatest int and their neighbours, and numbers that a product, a shift or a
     * cut to fewer bits would bring back to a small one.
     */
    private static final int[] FAR = {
        Integer.MIN_VALUE, Integer.MIN_VALUE + 1, Integer.MAX_VALUE, Integer.MAX_VALUE - 1,
        1 << 30, 1 << 29, 1 << 28, (1 << 28) + 1, 1 << 27, 1 << 16, (1 << 16) + 1, 1 << 8, (1 << 8) + 1, 1 << 6, 48,
        -48, -47, -(1 << 8), -(1 << 16), -(1 << 28), -(1 << 30),
    };

    private Outside() {
    }

    /** The neighbours of a range, and all far numbers that it does not hold. */
    static int[] of(int least, int greatest) {
        return IntStream.concat(IntStream.of(least - 1, greatest + 1), IntStream.of(FAR))
            .filter(n -> n < least || n > greatest).distinct().toArray();
    }

    /** Any int at all, for what is not looked at. */
    static int[] anyInt() {
        return IntStream.concat(IntStream.of(-2, -1, 0, 1, 7, 47), IntStream.of(FAR)).distinct().toArray();
    }
}
