import java.math.BigInteger;

/** Promise 8, inexact. */
public final class Promise08Test {
    private static final Promise PROMISE = new Promise(8);
    private static final BigInteger TWO = BigInteger.TWO;

    public static void main(String[] args) {
        nearest();
        evenLastBit();
        infinite();
        tooSmall();
        zero();
        otherwise();
        allElseStays();
        PROMISE.end();
    }

    private static void becomes(String text, double value) {
        DoubleTexts x = Look.read(text);
        PROMISE.same("kind of " + text, x.kind(), 1);
        PROMISE.same("inexact of " + text, x.inexact(), true);
        PROMISE.same("then " + text, Look.number(x), Look.number(value));
        PROMISE.same("inexact again of " + text, x.inexact(), false);
    }

    private static void nearest() {
        PROMISE.says("The number becomes the nearest double, if it is exact: true");
        becomes("1", 1);
        becomes("-7", -7);
        becomes("1/3", 1.0 / 3);
        becomes("-2/3", -2.0 / 3);
        becomes("#e0.1", 0.1);
        becomes("#e123456789e-300", 123456789e-300);
        becomes(Check.repeat("9", 300), 1e300);
        becomes(Check.repeat("9", 199) + "/" + Check.repeat("7", 200), 9.0 / 70);
    }

    private static void evenLastBit() {
        PROMISE.says("NEAREST: of two doubles as near the one with an even last bit");
        becomes("9007199254740993", 0x1p53);
        becomes("9007199254740995", 0x1p53 + 4);
        becomes("-9007199254740993/4", -0x1p51);
        becomes("#e9007199254740993" + Check.repeat("0", 300) + "1e-301", 0x1p53 + 2);
        becomes("#e9007199254740992." + Check.repeat("9", 370), 0x1p53);
        String half = "/8" + Check.repeat("0", 268);
        becomes("#x1" + half, 0.0);
        becomes("#x3" + half, 2 * Double.MIN_VALUE);
        becomes("#x5" + half, 2 * Double.MIN_VALUE);
        becomes("#x1fffffffffffff" + half, Double.MIN_NORMAL);
    }

    private static void infinite() {
        PROMISE.says("2^1024 counts as one, which is infinite then");
        BigInteger middle = TWO.pow(1024).subtract(TWO.pow(970));
        becomes("" + middle, Double.POSITIVE_INFINITY);
        becomes("-" + middle, Double.NEGATIVE_INFINITY);
        becomes("" + middle.subtract(BigInteger.ONE), Double.MAX_VALUE);
        becomes("#e" + middle.subtract(BigInteger.ONE) + ".9", Double.MAX_VALUE);
        becomes("" + TWO.pow(1024), Double.POSITIVE_INFINITY);
        becomes("#e1e309", Double.POSITIVE_INFINITY);
        becomes("#e1e1233", Double.POSITIVE_INFINITY);
        becomes("#e-1e1233", Double.NEGATIVE_INFINITY);
    }

    private static void tooSmall() {
        PROMISE.says("the nearest double: 0 for what is too small");
        becomes("#e3e-324", Double.MIN_VALUE);
        becomes("#e2e-324", 0.0);
        becomes("#e-2e-324", -0.0);
        becomes("#e1e-1233", 0.0);
        becomes("#e-1e-1233", -0.0);
    }

    private static void zero() {
        PROMISE.says("the nearest double: an exact 0 has no sign");
        becomes("0", 0.0);
        becomes("-0", 0.0);
        becomes("-0/3", 0.0);
        becomes("#e-0.0", 0.0);
    }

    private static void otherwise() {
        PROMISE.says("else false");
        for (String sort : Look.SORTS) {
            DoubleTexts x = Look.ready(sort);
            if (x.kind() != 1) {
                PROMISE.same("inexact of " + sort, x.inexact(), false);
                PROMISE.asReady("then " + sort, x, sort);
            }
        }
    }

    private static void allElseStays() {
        PROMISE.says("The number becomes the nearest double: nothing else changes");
        DoubleTexts x = Look.ready("-3/2");
        x.inexact();
        PROMISE.asReady("-3/2", x, "-1.5");
        x = Look.ready("#e-1e1000");
        x.inexact();
        PROMISE.asReady("-10^1000", x, "-inf.0");
    }
}
