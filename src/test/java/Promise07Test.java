import java.math.BigDecimal;
import java.math.BigInteger;

/** Promise 7, exact. */
public final class Promise07Test {
    private static final Promise PROMISE = new Promise(7);
    private static final double[] FINITE = {
        1, 1.5, 0.1, 3, 1e22, 1e23, 0x1p52 - 0.5, 0x1p52 - 1, 0x1p52, 0x1p52 + 1, 0x1p53, 0x1p53 - 1, 0x1p53 + 2,
        0x1p-52, 0x1p-53, 0x1p-53 + 0x1p-105, 0x1p32, 0x1p-32, Double.MIN_VALUE, 2 * Double.MIN_VALUE,
        3 * Double.MIN_VALUE, Double.MIN_NORMAL, Double.MIN_NORMAL - Double.MIN_VALUE, 0x1p1023, Double.MAX_VALUE,
    };

    public static void main(String[] args) {
        finite();
        zeros();
        bitsOfTheEnds();
        noneSuch();
        allElseStays();
        PROMISE.end();
    }

    private static String ratio(double value) {
        BigDecimal decimal = new BigDecimal(value);
        BigInteger denominator = BigInteger.TEN.pow(Math.max(decimal.scale(), 0));
        BigInteger numerator = decimal.multiply(new BigDecimal(denominator)).toBigIntegerExact();
        BigInteger common = numerator.gcd(denominator);
        String below = denominator.equals(common) ? "" : "/" + denominator.divide(common);
        return "exact " + numerator.divide(common) + below;
    }

    private static void finite() {
        PROMISE.says("The number becomes exact, if it is a finite double: true");
        for (double value : FINITE) {
            for (double signed : new double[] {value, -value}) {
                DoubleTexts x = Look.made(signed);
                PROMISE.same("exact of " + signed, x.exact(), true);
                PROMISE.same("kind of " + signed, x.kind(), 1);
                PROMISE.same("negative of " + signed, x.negative(), signed < 0);
                PROMISE.same("then " + signed, Look.number(x), ratio(signed));
                PROMISE.same("exact again of " + signed, x.exact(), false);
            }
        }
    }

    private static void zeros() {
        PROMISE.says("becomes exact, if it is a finite double: 0.0 and -0.0");
        for (String text : new String[] {"0.0", "-0.0"}) {
            DoubleTexts x = Look.read(text);
            PROMISE.same("exact of " + text, x.exact(), true);
            PROMISE.same("then " + text, Look.number(x), "exact 0");
            PROMISE.same("negative of " + text, x.negative(), false);
            PROMISE.same("numerator of " + text, x.bits(false), 0);
            PROMISE.same("denominator of " + text, x.bits(true), 1);
            x.inexact();
            PROMISE.same(text + " there and back", Look.number(x), Look.number(0.0));
        }
    }

    private static void bitsOfTheEnds() {
        PROMISE.says("becomes exact, if it is a finite double: the greatest and the least");
        DoubleTexts x = Look.made(Double.MAX_VALUE);
        x.exact();
        PROMISE.same("greatest: numerator", x.bits(false), 1024);
        PROMISE.same("greatest: denominator", x.bits(true), 1);
        x = Look.made(Double.MIN_VALUE);
        x.exact();
        PROMISE.same("least: numerator", x.bits(false), 1);
        PROMISE.same("least: denominator", x.bits(true), 1075);
    }

    private static void noneSuch() {
        PROMISE.says("false, and nothing is done, if it is none such");
        for (String sort : new String[] {"", "0", "-7", "22/7", "+inf.0", "-inf.0", "+nan.0", "1e999", "#e1e1234"}) {
            DoubleTexts x = Look.ready(sort);
            PROMISE.same("exact of " + sort, x.exact(), false);
            PROMISE.asReady("then " + sort, x, sort);
        }
    }

    private static void allElseStays() {
        PROMISE.says("The number becomes exact: nothing else changes");
        DoubleTexts x = Look.ready("-1.5");
        x.exact();
        PROMISE.asReady("-1.5", x, "-3/2");
        x = Look.ready("-0.0");
        x.exact();
        PROMISE.asReady("-0.0", x, "0");
    }
}
