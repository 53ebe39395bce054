import java.math.BigInteger;

/** Promise 13, bits. */
public final class Promise13Test {
    private static final Promise PROMISE = new Promise(13);

    public static void main(String[] args) {
        integers();
        everyLength();
        fractions();
        greatest();
        notExact();
        changesNothing();
        PROMISE.end();
    }

    private static void bits(String text, int numerator, int denominator) {
        DoubleTexts x = Look.read(text);
        PROMISE.same("numerator of " + text, x.bits(false), numerator);
        PROMISE.same("denominator of " + text, x.bits(true), denominator);
    }

    private static void integers() {
        PROMISE.says("The bits of the numerator (denominator false) .. of an exact number's absolute value");
        bits("0", 0, 1);
        bits("-0", 0, 1);
        bits("1", 1, 1);
        bits("-1", 1, 1);
        bits("2", 2, 1);
        bits("3", 2, 1);
        bits("-4", 3, 1);
        bits("-256", 9, 1);
        bits("-255", 8, 1);
    }

    private static void everyLength() {
        PROMISE.says("The bits of the numerator: around every power of two");
        for (int n = 1; n <= 1590; n++) {
            BigInteger power = BigInteger.TWO.pow(n);
            BigInteger below = power.subtract(BigInteger.ONE);
            PROMISE.same("2^" + n, Look.read("#x" + power.toString(16)).bits(false), n + 1);
            PROMISE.same("2^" + n + " - 1", Look.read("#x" + below.toString(16)).bits(false), n);
        }
    }

    private static void fractions() {
        PROMISE.says("or denominator");
        bits("1/2", 1, 2);
        bits("-2/4", 1, 2);
        bits("3/4", 2, 3);
        bits("4/2", 2, 1);
        bits("0/9", 0, 1);
        bits("22/7", 5, 3);
        bits("12884901885/4294967295", 2, 1);
        bits("4294967295/12884901885", 1, 2);
        bits("340282366920938463463374607431768211455/18446744073709551615", 65, 1);
        bits("18446744073709551615/340282366920938463463374607431768211455", 1, 65);
        bits("1/4294967295", 1, 32);
        bits("1/4294967296", 1, 33);
        bits("#x1/8" + Check.repeat("0", 395), 1, 4 * 396);
    }

    private static void greatest() {
        PROMISE.says("The bits of the numerator .. or denominator: at most 4096");
        bits("#e1e1233", 4096, 1);
        bits("#e-1e1233", 4096, 1);
        bits("#e1e-1233", 1, 4096);
        bits("#e-1e-1233", 1, 4096);
        bits("#e1e1232", 4093, 1);
        bits("#e1e1234", -1, -1);
        bits("#e1e-1234", -1, -1);
        bits("#e" + Check.repeat("9", 390) + "e-1233", new BigInteger(Check.repeat("9", 390)).bitLength(), 4096);
    }

    private static void notExact() {
        PROMISE.says("-1 if it is not exact");
        for (String text : new String[] {"", "1/0", "0.0", "1.5", "#i1", "5e-324", "+inf.0", "-inf.0", "+nan.0"}) {
            DoubleTexts x = Check.typed("7/3");
            x.read();
            x.clear();
            Check.type(x, text);
            x.read();
            PROMISE.same("numerator of " + text, x.bits(false), -1);
            PROMISE.same("denominator of " + text, x.bits(true), -1);
        }
        DoubleTexts x = Look.read("7/3");
        x.inexact();
        PROMISE.same("numerator of 7/3 made inexact", x.bits(false), -1);
        PROMISE.same("denominator of 7/3 made inexact", x.bits(true), -1);
        x.exact();
        PROMISE.same("numerator of that made exact", x.bits(false), 53);
        PROMISE.same("denominator of that made exact", x.bits(true), 52);
    }

    private static void changesNothing() {
        PROMISE.says("bits: nothing changes");
        for (String sort : Look.SORTS) {
            DoubleTexts x = Look.ready(sort);
            x.bits(false);
            x.bits(true);
            PROMISE.asReady("after " + sort, x, sort);
        }
    }
}
