/** Promise 5, make. */
public final class Promise05Test {
    private static final Promise PROMISE = new Promise(5);
    private static final long TOP = 1L << 52;
    private static final long LAST = 2 * TOP - 1;

    public static void main(String[] args) {
        units();
        sign();
        evenLastBit();
        infinite();
        tooSmall();
        negativeZero();
        unitsBelowZero();
        placeOutside();
        placeAtTheEnds();
        allElseStays();
        PROMISE.end();
    }

    private static void makes(boolean negative, long units, int place, double value) {
        DoubleTexts x = Look.read("22/7");
        String call = "make(" + negative + ", " + units + ", " + place + ")";
        PROMISE.same(call, x.make(negative, units, place), true);
        PROMISE.same("after " + call, Look.number(x), Look.number(value));
    }

    /** The same with both signs. */
    private static void makes(long units, int place, double value) {
        makes(false, units, place, value);
        makes(true, units, place, -value);
    }

    private static void units() {
        PROMISE.says("The number becomes the double nearest to units * 2^place");
        makes(1, 0, 1);
        makes(3, -1, 1.5);
        makes(LAST, 0, 9007199254740991.0);
        makes(TOP, -1074, Double.MIN_NORMAL);
        makes(TOP - 1, -1074, Double.MIN_NORMAL - Double.MIN_VALUE);
        makes(1, -1074, Double.MIN_VALUE);
        makes(1, 1023, 0x1p1023);
        makes(LAST, 971, Double.MAX_VALUE);
        makes(1L << 62, -1136, Double.MIN_VALUE);
        makes(Long.MAX_VALUE, 960, 0x1p1023);
        makes(Long.MAX_VALUE, -63, 1);
    }

    private static void sign() {
        PROMISE.says("the double nearest to units * 2^place: with the sign that negative asks for");
        makes(true, 5, 0, -5);
        makes(false, 5, 0, 5);
        makes(true, 1, 1024, Double.NEGATIVE_INFINITY);
        makes(false, 1, 1024, Double.POSITIVE_INFINITY);
        makes(true, 1, -1076, -0.0);
        makes(false, 1, -1076, 0.0);
    }

    private static void evenLastBit() {
        PROMISE.says("NEAREST: of two doubles as near the one with an even last bit");
        makes(2 * TOP + 1, 0, 0x1p53);
        makes(2 * TOP + 3, 0, 0x1p53 + 4);
        makes(4 * TOP + 2, 0, 0x1p54);
        makes(4 * TOP + 6, 0, 0x1p54 + 8);
        makes(4 * TOP + 1, 0, 0x1p54);
        makes(4 * TOP + 3, 0, 0x1p54 + 4);
        makes(4 * TOP - 1, 0, 0x1p54);
        makes((1L << 62) + 512, 0, 0x1p62);
        makes((1L << 62) + 513, 0, 0x1p62 + 1024);
        makes((1L << 62) + 1536, 0, 0x1p62 + 2048);
        makes(Long.MAX_VALUE - 511, 0, 0x1p63);
        makes(Long.MAX_VALUE - 512, 0, 0x1p63 - 1024);
        makes(3, -1075, 2 * Double.MIN_VALUE);
        makes(5, -1075, 2 * Double.MIN_VALUE);
        makes(6, -1076, 2 * Double.MIN_VALUE);
        makes(5, -1076, Double.MIN_VALUE);
        makes(7, -1076, 2 * Double.MIN_VALUE);
        makes(LAST, -1075, Double.MIN_NORMAL);
        makes(LAST - 2, -1075, Double.MIN_NORMAL - 2 * Double.MIN_VALUE);
    }

    private static void infinite() {
        PROMISE.says("2^1024 counts as one, which is infinite then");
        makes(4 * TOP - 1, 970, Double.POSITIVE_INFINITY);
        makes(8 * TOP - 3, 969, Double.MAX_VALUE);
        makes(Long.MAX_VALUE, 961, Double.POSITIVE_INFINITY);
        makes(Long.MAX_VALUE - 511, 961, Double.POSITIVE_INFINITY);
        makes(Long.MAX_VALUE - 512, 961, Double.MAX_VALUE);
        makes(2 * TOP, 971, Double.POSITIVE_INFINITY);
        makes(1, 1024, Double.POSITIVE_INFINITY);
        makes(1, 1025, Double.POSITIVE_INFINITY);
        makes(1, 1026, Double.POSITIVE_INFINITY);
        makes(1, 2000, Double.POSITIVE_INFINITY);
        makes(Long.MAX_VALUE, 2000, Double.POSITIVE_INFINITY);
    }

    private static void tooSmall() {
        PROMISE.says("the double nearest to units * 2^place: 0 for what is too small");
        makes(1, -1075, 0.0);
        makes(2, -1075, Double.MIN_VALUE);
        makes(2 * TOP + 1, -1128, Double.MIN_VALUE);
        makes(LAST, -1128, 0.0);
        makes(1, -1076, 0.0);
        makes(1, -1077, 0.0);
        makes(3, -1077, 0.0);
        makes(5, -1077, Double.MIN_VALUE);
        makes(1, -2000, 0.0);
        makes(Long.MAX_VALUE, -2000, 0.0);
    }

    private static void negativeZero() {
        PROMISE.says("or -0.0 for negative and units 0");
        for (int place : new int[] {-2000, -1075, -1074, -1, 0, 1, 971, 1024, 2000}) {
            makes(true, 0, place, -0.0);
            makes(false, 0, place, 0.0);
        }
    }

    private static void refuses(boolean negative, long units, int place) {
        for (String sort : Look.SORTS) {
            DoubleTexts x = Look.ready(sort);
            String call = "make(" + negative + ", " + units + ", " + place + ") after " + sort;
            PROMISE.same(call, x.make(negative, units, place), false);
            PROMISE.asReady(call, x, sort);
        }
    }

    private static void unitsBelowZero() {
        PROMISE.says("false, and nothing is done, if units is below 0");
        for (long units : new long[] {-1, -TOP, -1L << 32, Long.MIN_VALUE, Long.MIN_VALUE + 1}) {
            refuses(false, units, 0);
            refuses(true, units, 0);
        }
        refuses(true, -1, 2001);
    }

    private static void placeOutside() {
        PROMISE.says("false, and nothing is done, if .. place not -2000 .. 2000");
        for (int place : new int[] {-2001, 2001, Integer.MIN_VALUE, Integer.MAX_VALUE, -65_536, 65_536}) {
            refuses(false, 1, place);
            refuses(true, 0, place);
        }
    }

    private static void placeAtTheEnds() {
        PROMISE.says("place not -2000 .. 2000: these themselves are places");
        makes(0, 2000, 0.0);
        makes(0, -2000, 0.0);
        makes(1, 1999, Double.POSITIVE_INFINITY);
        makes(1, 2000, Double.POSITIVE_INFINITY);
        makes(1, -1999, 0.0);
        makes(1, -2000, 0.0);
    }

    private static void allElseStays() {
        PROMISE.says("The number becomes the double: nothing else changes");
        for (String sort : Look.SORTS) {
            DoubleTexts x = Look.ready(sort);
            x.make(true, 3, -1);
            PROMISE.asReady("after " + sort, x, "-1.5");
        }
    }
}
