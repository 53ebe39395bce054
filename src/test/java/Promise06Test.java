/** Promise 6, divide. */
public final class Promise06Test {
    private static final Promise PROMISE = new Promise(6);
    private static final long TOP = 1L << 52;

    public static void main(String[] args) {
        nearest();
        evenLastBit();
        greatestAndLeast();
        zero();
        notAboveZero();
        allElseStays();
        PROMISE.end();
    }

    private static void divides(long n, long d, double value) {
        DoubleTexts x = Look.read("22/7");
        String call = "divide(" + n + ", " + d + ")";
        PROMISE.same(call, x.divide(n, d), true);
        PROMISE.same("after " + call, Look.number(x), Look.number(value));
    }

    /** Of two numbers that Java's own doubles hold, so that its own quotient is the nearest. */
    private static void divides(long n, long d) {
        divides(n, d, (double) n / d);
        divides(-n, d, (double) -n / d);
    }

    private static void nearest() {
        PROMISE.says("The number becomes the double nearest to n / d");
        divides(1, 1);
        divides(1, 3);
        divides(2, 3);
        divides(22, 7);
        divides(6, 3);
        divides(1, 10);
        divides(TOP, 3);
        divides(3, 2 * TOP);
        divides(2 * TOP - 1, 2 * TOP);
        divides(2 * TOP, 2 * TOP - 1);
        divides(1, 1L << 62);
        divides(1L << 62, 1);
        divides(1L << 62, 3L << 61);
    }

    private static void evenLastBit() {
        PROMISE.says("NEAREST: of two doubles as near the one with an even last bit");
        divides(2 * TOP + 1, 1, 0x1p53);
        divides(2 * TOP + 3, 1, 0x1p53 + 4);
        divides(-2 * TOP - 1, 1, -0x1p53);
        divides(-2 * TOP - 3, 1, -0x1p53 - 4);
        divides(2 * TOP + 1, 2, 0x1p52);
        divides(2 * TOP + 3, 2, 0x1p52 + 2);
        divides(6 * TOP + 3, 3, 0x1p53);
        divides(6 * TOP + 4, 3, 0x1p53 + 2);
        divides(6 * TOP + 2, 3, 0x1p53);
        divides(6 * TOP + 9, 3, 0x1p53 + 4);
        divides(6 * TOP + 8, 3, 0x1p53 + 2);
        divides(6 * TOP + 10, 3, 0x1p53 + 4);
        divides(4 * TOP - 1, 1L << 62, 0x1p-8);
    }

    private static void greatestAndLeast() {
        PROMISE.says("the double nearest to n / d: of the greatest and the least n and d");
        divides(Long.MAX_VALUE, 1, 0x1p63);
        divides(Long.MIN_VALUE, 1, -0x1p63);
        divides(Long.MIN_VALUE + 1, 1, -0x1p63);
        divides(Long.MIN_VALUE, 2, -0x1p62);
        divides(Long.MIN_VALUE, 3, -0x1p63 / 3);
        divides(Long.MAX_VALUE, Long.MAX_VALUE, 1);
        divides(Long.MIN_VALUE, Long.MAX_VALUE, -1);
        divides(Long.MIN_VALUE + 1, Long.MAX_VALUE, -1);
        divides(1, Long.MAX_VALUE, 0x1p-63);
        divides(-1, Long.MAX_VALUE, -0x1p-63);
        divides(Long.MAX_VALUE - 512, 1, 0x1p63 - 1024);
        divides(Long.MAX_VALUE - 511, 1, 0x1p63);
    }

    private static void zero() {
        PROMISE.says("the double nearest to n / d: 0 has no sign -");
        divides(0, 1, 0.0);
        divides(0, 7, 0.0);
        divides(0, Long.MAX_VALUE, 0.0);
        DoubleTexts x = Look.read("-0.0");
        x.divide(0, 1);
        PROMISE.same("after -0.0", x.negative(), false);
    }

    private static void notAboveZero() {
        PROMISE.says("false, and nothing is done, if d is not above 0");
        for (String sort : Look.SORTS) {
            for (long d : new long[] {0, -1, -3, -1L << 32, Long.MIN_VALUE + 1, Long.MIN_VALUE}) {
                for (long n : new long[] {0, 1, -1, Long.MIN_VALUE, Long.MAX_VALUE}) {
                    DoubleTexts x = Look.ready(sort);
                    String call = "divide(" + n + ", " + d + ") after " + sort;
                    PROMISE.same(call, x.divide(n, d), false);
                    PROMISE.asReady(call, x, sort);
                }
            }
        }
    }

    private static void allElseStays() {
        PROMISE.says("The number becomes the double: nothing else changes");
        for (String sort : Look.SORTS) {
            DoubleTexts x = Look.ready(sort);
            x.divide(-3, 2);
            PROMISE.asReady("after " + sort, x, "-1.5");
        }
    }
}
