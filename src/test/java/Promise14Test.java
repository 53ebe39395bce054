import java.math.BigDecimal;
import java.math.BigInteger;

/** Promise 14, write, with the term WRITTEN. */
public final class Promise14Test {
    private static final Promise PROMISE = new Promise(14);
    private static final long TOP = 1L << 52;

    public static void main(String[] args) {
        integers();
        fractions();
        everyBase();
        longest();
        around400();
        words();
        sign();
        fewest();
        asNear();
        nearestOfSeveral();
        evenOfSeveral();
        greatestNeighbour();
        powersOfTwo();
        leastDoubles();
        powersOfTen();
        zero();
        plain();
        othersOrZero();
        leadingZeros();
        withExponent();
        length();
        oneAfterAnother();
        refusesNone();
        refusesBases();
        allElseStays();
        PROMISE.end();
    }

    private static void writes(String text, int base, String written) {
        DoubleTexts x = Look.ready(text);
        PROMISE.same(text + " in base " + base, x.write(base), written.length());
        PROMISE.same(text + " in base " + base, Look.output(x), written);
    }

    private static void writes(String text, String written) {
        writes(text, 10, written);
    }

    private static void writesMade(long units, int place, String written) {
        DoubleTexts x = new DoubleTexts();
        x.make(false, units, place);
        PROMISE.same(units + " * 2^" + place, Check.written(x, 10), written);
    }

    private static void integers() {
        PROMISE.says("WRITTEN: an integer, a sign - if negative, and its digits");
        writes("0", "0");
        writes("-0", "0");
        writes("+7", "7");
        writes("-7", "-7");
        writes("007", "7");
        writes("14/2", "7");
        writes("#e-1.5e1", "-15");
        writes("4294967296", "4294967296");
        writes("10000000000000000000000000000000", "10000000000000000000000000000000");
    }

    private static void fractions() {
        PROMISE.says("a fraction, numerator, /, denominator");
        writes("1/2", "1/2");
        writes("-1/2", "-1/2");
        writes("-6/4", "-3/2");
        writes("#e.001", "1/1000");
        writes("#xa/b", 16, "a/b");
        writes("#xa/b", 2, "1010/1011");
        writes("1/1000000000", "1/1000000000");
    }

    private static void everyBase() {
        PROMISE.says("exact ones in a base 2 to 16");
        BigInteger great = new BigInteger("123456789").pow(40);
        for (int base = 2; base <= 16; base++) {
            writes("" + great, base, great.toString(base));
            writes("-1/" + great, base, "-1/" + great.toString(base));
            writes("0", base, "0");
            String last = Integer.toString(base - 1, base);
            writes("-" + (base - 1), base, "-" + last);
            for (int power = 1; power < 40; power++) {
                BigInteger value = BigInteger.valueOf(base).pow(power);
                writes("" + value, base, "1" + Check.repeat("0", power));
                writes("" + value.subtract(BigInteger.ONE), base, Check.repeat(last, power));
            }
        }
    }

    private static void longest() {
        PROMISE.says("its length: of the longest outputs");
        String digits = Check.repeat("9", 391);
        writes("#e-" + digits + "e-1233", 2, "-" + new BigInteger(digits).toString(2) + "/"
            + BigInteger.TEN.pow(1233).toString(2));
        writes("#e-1e1233", 2, "-" + BigInteger.TEN.pow(1233).toString(2));
        writes("#e-" + digits + "e-1233", "-" + digits + "/1" + Check.repeat("0", 1233));
    }

    /** Lengths from below 400 to above, numerator and denominator of every size. */
    private static void around400() {
        PROMISE.says("its length: around the 400 characters that a text may have");
        for (int n = 360; n <= 440; n++) {
            DoubleTexts x = new DoubleTexts();
            x.make(true, 1, n);
            x.exact();
            PROMISE.same("-2^" + n, Check.written(x, 2), "-1" + Check.repeat("0", n));
            x.make(true, 1, -n);
            x.exact();
            PROMISE.same("-2^-" + n, Check.written(x, 2), "-1/1" + Check.repeat("0", n));
            x.make(false, (1L << 52) + 1, -n - 52);
            x.exact();
            PROMISE.same("length of (2^52 + 1) / 2^" + (n + 52), x.write(2), 53 + 1 + n + 53);
        }
    }

    private static void words() {
        PROMISE.says("a double: +inf.0, -inf.0, +nan.0");
        writes("+inf.0", "+inf.0");
        writes("-inf.0", "-inf.0");
        writes("1e999", "+inf.0");
        writes("-1e999", "-inf.0");
        writes("+nan.0", "+nan.0");
        writes("-nan.0", "+nan.0");
    }

    private static void sign() {
        PROMISE.says("else - if its sign is 1");
        writes("-1.5", "-1.5");
        writes("1.5", "1.5");
        writes("-0.0", "-0.0");
        writes("0.0", "0.0");
        writes("-1e-9999", "-0.0");
        writes("-1e300", "-1e300");
        writes("-1e-5", "-0.00001");
    }

    private static void fewest() {
        PROMISE.says("the fewest that lie nearer to it than to any other double");
        writes("0.1", "0.1");
        writes("0.30000000000000004", "0.30000000000000004");
        writes("0.3", "0.3");
        writes("0.1000000000000000055511151231257827", "0.1");
        writes("1.0000000000000002", "1.0000000000000002");
        writes("0.9999999999999999", "0.9999999999999999");
        writes("123456789.12345678", "123456789.12345678");
        writes("#i1/3", "0.3333333333333333");
        writes("#i2/3", "0.6666666666666666");
        writes("2.5e-8", "2.5e-8");
        writesMade(2 * TOP - 1, -53, "0.9999999999999999");
        writesMade(TOP + 1, -52, "1.0000000000000002");
    }

    /** Decimals that lie in the very middle of two doubles, with even units and with odd ones. */
    private static void asNear() {
        PROMISE.says("or as near to it as to another one if its units are even");
        writesMade(5960464477539062L, 24, "1e23");
        writesMade(5960464477539063L, 24, "1.0000000000000001e23");
        writesMade(TOP + 1, 2, "18014398509481988.0");
        writesMade(TOP + 2, 2, "18014398509481990.0");
        // The middle is ..1990, too; a digit less does not tell the odd one.
        writesMade(TOP + 3, 2, "18014398509481996.0");
        writesMade(TOP + 4, 2, "18014398509482000.0");
    }

    private static void nearestOfSeveral() {
        PROMISE.says("of several such the nearest to it");
        writesMade(1, -1074, "5e-324");
        writesMade(2, -1074, "1e-323");
        writesMade(3, -1074, "1.5e-323");
        writesMade(4, -1074, "2e-323");
        writesMade(5, -1074, "2.5e-323");
        writesMade(TOP, 0, "4503599627370496.0");
        writesMade(2 * TOP - 1, 1, "18014398509481982.0");
        writes("562949953421312.125", "562949953421312.1");
        writes("562949953421312.375", "562949953421312.4");
        writes("562949953421312.625", "562949953421312.6");
        writes("562949953421312.875", "562949953421312.9");
    }

    private static void evenOfSeveral() {
        PROMISE.says("then the even one");
        writes("1125899906842624.25", "1125899906842624.2");
        writes("1125899906842624.75", "1125899906842624.8");
        writes("1125899906842625.25", "1125899906842625.2");
        writes("-1125899906842625.75", "-1125899906842625.8");
        writes("562949953421312.25", "562949953421312.2");
        writes("562949953421312.75", "562949953421312.8");
        writes("-562949953421313.25", "-562949953421313.2");
    }

    private static void greatestNeighbour() {
        PROMISE.says("(2^1024 is the neighbour above the greatest double.)");
        writesMade(2 * TOP - 1, 971, "1.7976931348623157e308");
        writesMade(2 * TOP - 2, 971, "1.7976931348623155e308");
        writesMade(2 * TOP - 3, 971, "1.7976931348623153e308");
        writes("1.7976931348623158e308", "1.7976931348623157e308");
    }

    /** The neighbour below a power of two is nearer than the one above, but for the least ones. */
    private static void powersOfTwo() {
        PROMISE.says("nearer to it than to any other double: powers of two and their neighbours");
        for (int power = -1074; power <= 1023; power++) {
            double value = Double.longBitsToDouble(power >= -1022 ? (long) (power + 1023) << 52 : 1L << (power + 1074));
            told(value);
            told(Math.nextDown(value));
            told(Math.nextUp(value));
        }
    }

    private static void leastDoubles() {
        PROMISE.says("nearer to it than to any other double: the least doubles");
        for (int units = 1; units <= 300; units++) {
            told(units * Double.MIN_VALUE);
        }
        told(Double.MIN_NORMAL - 2 * Double.MIN_VALUE);
        told(Double.MIN_NORMAL + 2 * Double.MIN_VALUE);
    }

    private static void powersOfTen() {
        PROMISE.says("the fewest: powers of ten and their neighbours");
        for (int power = -323; power <= 308; power++) {
            double value = Double.parseDouble("1e" + power);
            told(value);
            told(Math.nextDown(value));
            told(Math.nextUp(value));
        }
    }

    /** By the definition, tried on BigDecimal: no decimal of fewer digits tells it, and none of as many is better. */
    private static void told(double value) {
        if (value == 0 || Double.isInfinite(value)) {
            return;
        }
        String written = Check.written(Look.made(value), 10);
        BigDecimal decimal = new BigDecimal(written).stripTrailingZeros();
        PROMISE.same(written + " tells it", Double.parseDouble(written) == value, true);
        PROMISE.same("the form of " + written, written, form(decimal.unscaledValue().toString(),
            decimal.precision() - decimal.scale()));
        BigDecimal exact = new BigDecimal(value);
        BigDecimal distance = decimal.subtract(exact).abs();
        BigDecimal step = BigDecimal.ONE.scaleByPowerOfTen(-decimal.scale());
        for (BigDecimal other : new BigDecimal[] {decimal.subtract(step), decimal.add(step)}) {
            boolean tells = other.signum() > 0 && Double.parseDouble(other.toString()) == value;
            int order = other.subtract(exact).abs().compareTo(distance);
            boolean better = order < 0 || order == 0 && decimal.unscaledValue().testBit(0);
            PROMISE.same(other + " is better than " + written, tells && better, false);
        }
        BigDecimal ten = step.scaleByPowerOfTen(1);
        BigDecimal down = exact.divideToIntegralValue(ten).multiply(ten);
        for (BigDecimal other : new BigDecimal[] {down, down.add(ten)}) {
            boolean tells = other.signum() > 0 && Double.parseDouble(other.toString()) == value;
            PROMISE.same(other + " is shorter than " + written, tells, false);
        }
    }

    private static String form(String digits, int p) {
        int n = digits.length();
        if (0 < p && p <= 21) {
            return n > p ? digits.substring(0, p) + "." + digits.substring(p)
                : digits + Check.repeat("0", p - n) + ".0";
        }
        if (-7 < p && p <= 0) {
            return "0." + Check.repeat("0", -p) + digits;
        }
        return digits.charAt(0) + (n > 1 ? "." + digits.substring(1) : "") + "e" + (p - 1);
    }

    private static void zero() {
        PROMISE.says("(0: one digit 0, p 1)");
        writes("0.0", "0.0");
        writes("-0.0", "-0.0");
        writes("0e9999", "0.0");
        writes("#i0/7", "0.0");
        writes("1e-9999", "0.0");
    }

    private static void plain() {
        PROMISE.says("if 0 < p <= 21 the first p digits (with zeros if there are not so many), \".\"");
        writes("1.", "1.0");
        writes("9.5", "9.5");
        writes("12.", "12.0");
        writes("1200.", "1200.0");
        writes("1e20", "100000000000000000000.0");
        writes("-1.5e20", "-150000000000000000000.0");
        writes("123456789012345680000.", "123456789012345680000.0");
        writes("999999999999999900000.", "999999999999999900000.0");
        writes("999999999999999999999.", "1e21");
        writes("1e21", "1e21");
        writes("1.5e21", "1.5e21");
        writes("1e22", "1e22");
    }

    private static void othersOrZero() {
        PROMISE.says("and the others, 0 if there are none");
        writes("5.", "5.0");
        writes("50.", "50.0");
        writes("5.5", "5.5");
        writes("12345.678", "12345.678");
        writes("1234567890123456.", "1234567890123456.0");
        writes("123456789012345.6", "123456789012345.6");
        writes("1.2345678901234567", "1.2345678901234567");
        writes("12345678901234567.", "12345678901234568.0");
    }

    private static void leadingZeros() {
        PROMISE.says("if -7 < p <= 0 \"0.\", -p zeros, the digits");
        writes("0.5", "0.5");
        writes("0.125", "0.125");
        writes("9.5367431640625e-7", "0.00000095367431640625");
        writes("0.9999999999999999", "0.9999999999999999");
        writes("0.05", "0.05");
        writes("1e-6", "0.000001");
        writes("1e-7", "0.0000001");
        writes("9.999e-7", "0.0000009999");
        writes("-1.25e-7", "-0.000000125");
        writes("9.9e-8", "9.9e-8");
        writes("1e-8", "1e-8");
    }

    private static void withExponent() {
        PROMISE.says("else d1, if n > 1 \".\" and the others, \"e\", p - 1");
        writes("1e21", "1e21");
        writes("2.5e21", "2.5e21");
        writes("-1.2345e25", "-1.2345e25");
        writes("1e99", "1e99");
        writes("1e100", "1e100");
        writes("1e308", "1e308");
        writes("1e-8", "1e-8");
        writes("2.5e-8", "2.5e-8");
        writes("1e-9", "1e-9");
        writes("1e-10", "1e-10");
        writes("-1.2345e-99", "-1.2345e-99");
        writes("1e-100", "1e-100");
        writes("5e-324", "5e-324");
        writes("2.2250738585072014e-308", "2.2250738585072014e-308");
    }

    private static void length() {
        PROMISE.says("The output becomes the number as it is written: its length");
        DoubleTexts x = Look.read("-1234567/89");
        PROMISE.same("a longer one", x.write(2), x.bits(false) + x.bits(true) + 2);
        PROMISE.same("a shorter one", x.write(16), Look.output(x).length());
        PROMISE.same("its end", x.out(Look.output(x).length()), -1);
        PROMISE.same("it", Look.output(x), "-12d687/59");
        x.divide(0, 1);
        PROMISE.same("the shortest double", x.write(10), 3);
        PROMISE.same("nothing of the longer one", Look.output(x), "0.0");
        PROMISE.same("twice the same", x.write(10), 3);
    }

    /** One object writes doubles of other lengths and exponents, one after another. */
    private static void oneAfterAnother() {
        PROMISE.says("The output becomes the number as it is written: whatever was written before");
        String[] texts = {
            "1e300", "0.0", "1.2345678901234567", "1e-300", "-0.0", "5.0", "+inf.0", "1e300", "+nan.0", "0.5", "0.0",
            "1234.5", "22/7", "100000000000000000000.0", "0.0000001", "0.0",
        };
        DoubleTexts x = new DoubleTexts();
        for (String text : texts) {
            x.clear();
            Check.type(x, text);
            x.read();
            PROMISE.same(text, Check.written(x, 10), text);
        }
    }

    private static void refusesNone() {
        PROMISE.says("-1, and nothing is done, if there is none");
        for (int base = -2; base <= 40; base++) {
            refuses("", base);
            refuses("1/0", base);
        }
        refuses("", Integer.MIN_VALUE);
        refuses("", Integer.MAX_VALUE);
    }

    private static void refusesBases() {
        PROMISE.says("exact ones in a base 2 to 16, doubles in base 10 .. -1, and nothing is done, for another base");
        int[] never = {Integer.MIN_VALUE, -16, -10, -2, -1, 0, 1, 17, 18, 32, 36, 266, 65_546, Integer.MAX_VALUE};
        for (String sort : Look.SORTS) {
            for (int base : never) {
                refuses(sort, base);
            }
            for (int base = 2; base <= 16 && Look.ready(sort).kind() != 1; base++) {
                if (base != 10) {
                    refuses(sort, base);
                }
            }
        }
    }

    private static void refuses(String sort, int base) {
        DoubleTexts x = Look.ready(sort);
        PROMISE.same("write(" + base + ") of " + sort, x.write(base), -1);
        PROMISE.asReady("after write(" + base + ") of " + sort, x, sort);
    }

    private static void allElseStays() {
        PROMISE.says("The output becomes the number as it is written: nothing else changes");
        for (String sort : Look.SORTS) {
            DoubleTexts x = Look.ready(sort);
            x.write(10);
            x.write(2);
            x.write(16);
            PROMISE.same("after " + sort, Look.numberAndText(x), Look.numberAndText(Look.ready(sort)));
        }
    }
}
