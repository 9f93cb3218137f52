import java.util.Arrays;
import java.util.stream.IntStream;

/** Numbers on the wrong side of a boundary. */
final class Numbers {
    static final int LEAST = Integer.MIN_VALUE;
    static final int GREATEST = Integer.MAX_VALUE;

    private Numbers() {
    }

    /**
     * Numbers outside least .. most: the next ones on both sides, those that a shift, a byte or a short would take for
     * ones inside, and far ones, with which sums and products wrap around.
     */
    static int[] outside(int least, int most) {
        IntStream wrong = IntStream.of(least - 1, least - 2, most + 1, most + 2, least - 32, least + 32, most + 32, 64,
                256, -256, 65536, -65536, 1 << 30, -(1 << 30), LEAST, LEAST + 1, LEAST + most, LEAST + most + 1,
                GREATEST, GREATEST - 1, GREATEST - most, GREATEST - 13, GREATEST - 14);
        return wrong.filter(n -> n < least || n > most).distinct().toArray();
    }

    static int[] from(int least, int most) {
        return IntStream.rangeClosed(least, most).toArray();
    }

    static String call(String name, int... arguments) {
        String list = Arrays.toString(arguments);
        return name + "(" + list.substring(1, list.length() - 1) + ")";
    }
}
