import java.math.BigInteger;

/** Promise 4, read: the values of exact numbers, the nearest doubles, and what is too great or too small for them. */
public final class Promise04ValueTest {
    private static final Promise PROMISE = new Promise(4);
    private static final BigInteger TWO = BigInteger.TWO;
    private static final BigInteger FIVE = BigInteger.valueOf(5);
    private static final String GREATEST = "1.7976931348623157e308";

    public static void main(String[] args) {
        lowestTerms();
        everySmallRatio();
        greatCommonFactors();
        powersOverTens();
        greatestNumerators();
        greatestDenominators();
        farTooGreat();
        bitsInLowestTerms();
        exactZero();
        fullText();
        inexactRatio();
        evenLastBit();
        evenLastBitOfTheLeast();
        besideTheMiddle();
        infinite();
        tooSmall();
        negativeZero();
        PROMISE.end();
    }

    private static void reads(String text, String number) {
        DoubleTexts x = Check.typed(text);
        PROMISE.same("length of " + text, text.length() <= 400, true);
        PROMISE.same("read " + text, x.read(), number.equals("none") ? 0 : number.startsWith("exact") ? 1 : 2);
        PROMISE.same(text, Look.number(x), number);
    }

    private static void reads(String text, double value) {
        reads(text, Look.number(value));
    }

    private static void lowestTerms() {
        PROMISE.says("an integer, or a fraction in lowest terms with a denominator of 2 or more");
        reads("7/1", "exact 7");
        reads("14/2", "exact 7");
        reads("14/4", "exact 7/2");
        reads("7/7", "exact 1");
        reads("-2/4", "exact -1/2");
        reads("0/7", "exact 0");
        reads("00/0000000009", "exact 0");
        reads("4294967296/8589934592", "exact 1/2");
        reads("4294967295/4294967297", "exact 4294967295/4294967297");
        reads("12884901885/4294967295", "exact 3");
        reads("2/1000000000001", "exact 2/1000000000001");
        reads("1000000000001/4096", "exact 1000000000001/4096");
        reads("340282366920938463463374607431768211455/18446744073709551615", "exact 18446744073709551617");
        reads("18446744073709551615/340282366920938463463374607431768211455", "exact 1/18446744073709551617");
        reads("#x" + Check.repeat("f", 198) + "/" + Check.repeat("F", 197) + "e", "exact "
            + TWO.pow(4 * 198).subtract(BigInteger.ONE) + "/" + TWO.pow(4 * 198).subtract(TWO));
        reads("#e0.5", "exact 1/2");
        reads("#e5.0", "exact 5");
        reads("#e1000e-3", "exact 1");
        reads(Check.repeat("9", 199) + "/" + Check.repeat("9", 200), "exact " + Check.repeat("1", 199) + "/"
            + Check.repeat("1", 200));
        reads(Check.repeat("9", 99) + "/" + Check.repeat("9", 198), "exact 1/1" + Check.repeat("0", 98) + "1");
    }

    private static void everySmallRatio() {
        PROMISE.says("a fraction in lowest terms: every one of two small numbers");
        for (int n = 0; n <= 48; n++) {
            for (int d = 1; d <= 48; d++) {
                int common = BigInteger.valueOf(n).gcd(BigInteger.valueOf(d)).intValue();
                reads(n + "/" + d, "exact " + n / common + (d == common ? "" : "/" + d / common));
            }
        }
    }

    /** Great common factors, even and odd; the numbers that are left have words of all ones and of 0. */
    private static void greatCommonFactors() {
        PROMISE.says("a fraction in lowest terms: great ones");
        BigInteger ones = TWO.pow(128).subtract(BigInteger.ONE);
        BigInteger lone = TWO.pow(128).add(BigInteger.ONE);
        BigInteger common = BigInteger.ONE;
        for (int i = 0; i < 70; i++) {
            common = common.multiply(BigInteger.valueOf(i % 4 == 0 ? 2 : 2 * i + 1));
            reads("#x" + ones.multiply(common).toString(16) + "/" + lone.multiply(common).toString(16),
                "exact " + ones + "/" + lone);
            reads("#x" + lone.multiply(common).toString(16) + "/" + common.toString(16), "exact " + lone);
        }
    }

    private static void powersOverTens() {
        PROMISE.says("a fraction in lowest terms: powers of two and of five over powers of ten");
        for (int power = 0; power < 560; power += power < 30 ? 1 : 53) {
            for (int tens = 1; tens <= power; tens += tens < 30 ? 1 : 41) {
                reads("#e" + FIVE.pow(power) + "e-" + tens, "exact " + FIVE.pow(power - tens) + "/" + TWO.pow(tens));
                reads("#e" + TWO.pow(power) + "e-" + tens, "exact " + TWO.pow(power - tens) + "/" + FIVE.pow(tens));
            }
        }
    }

    /** The last numbers below 2^4096 and the first from it on, as far as so many digits tell them apart. */
    private static void greatestNumerators() {
        PROMISE.says("Exact numbers whose numerator .. would have more than 4096 bits are none");
        for (int digits = 1; digits <= 390; digits += digits < 20 ? 1 : 37) {
            BigInteger unit = BigInteger.TEN.pow(1234 - digits);
            BigInteger below = TWO.pow(4096).divide(unit);
            String tens = "e" + (1234 - digits);
            reads("#e" + below + tens, "exact " + below.multiply(unit));
            reads("#e-" + below + tens, "exact -" + below.multiply(unit));
            reads("#e" + below.add(BigInteger.ONE) + tens, "none");
            reads("#e-" + below.add(BigInteger.ONE) + tens, "none");
        }
        reads("#e1e1233", "exact 1" + Check.repeat("0", 1233));
        reads("#e1e1234", "none");
        reads("#e.001e1236", "exact 1" + Check.repeat("0", 1233));
        reads("#e.001e1237", "none");
        reads("#e1e9999", "none");
        reads("#e-1e9999", "none");
        reads("#e" + Check.repeat("9", 393) + "e9999", "none");
        reads("#e." + Check.repeat("0", 390) + "1e9999", "none");
        reads("#e." + Check.repeat("0", 390) + "1e1624", "exact 1" + Check.repeat("0", 1233));
        reads("#e." + Check.repeat("0", 390) + "1e1625", "none");
    }

    private static void farTooGreat() {
        PROMISE.says("more than 4096 bits are none: of every size");
        String digits = Check.repeat("1234567890", 39);
        for (int tens = 1234; tens <= 9999; tens += tens < 2000 ? 1 : 17) {
            reads("#e1e" + tens, "none");
            reads("#e" + digits + "e" + tens, "none");
            reads("#e-1e-" + tens, "none");
            reads("#e" + digits + "1e-" + tens, "none");
        }
    }

    private static void greatestDenominators() {
        PROMISE.says("Exact numbers whose .. denominator would have more than 4096 bits are none");
        reads("#e1e-1233", "exact 1/1" + Check.repeat("0", 1233));
        reads("#e-1e-1233", "exact -1/1" + Check.repeat("0", 1233));
        reads("#e1e-1234", "none");
        reads("#e-3e-1234", "none");
        reads("#e.1e-1232", "exact 1/1" + Check.repeat("0", 1233));
        reads("#e.1e-1233", "none");
        reads("#e1e-9999", "none");
        reads("#e-" + Check.repeat("9", 391) + "e-9999", "none");
        reads("#e" + Check.repeat("7", 390) + "e-1233", "exact " + Check.repeat("7", 390) + "/1"
            + Check.repeat("0", 1233));
        reads("#e" + Check.repeat("7", 390) + "e-1234", "none");
    }

    /** Digits that are a power of two or of five leave less of 10^n in the denominator: 4096 bits, 4097, and around. */
    private static void bitsInLowestTerms() {
        PROMISE.says("numerator or denominator would have more than 4096 bits: in lowest terms");
        for (int n = 1; n <= 550; n += n < 40 ? 1 : 51) {
            for (int tens = 1230; tens <= 1780; tens++) {
                denominator(TWO.pow(n), FIVE.pow(tens), tens - n, "e-" + tens);
                denominator(FIVE.pow(n), FIVE.pow(tens - n), tens, "e-" + tens);
            }
        }
        reads("#e" + Check.repeat("1", 100) + Check.repeat("0", 280) + "e-1513", "exact " + Check.repeat("1", 100)
            + "/1" + Check.repeat("0", 1233));
        reads("#e" + Check.repeat("1", 100) + Check.repeat("0", 280) + "e-1514", "none");
        reads("#e1" + Check.repeat("0", 380) + "e-380", "exact 1");
    }

    /** The digits over 10^tens are 1 / (fives * 2^twos); looked at only near the limit. */
    private static void denominator(BigInteger digits, BigInteger fives, int twos, String tens) {
        int bits = fives.bitLength() + twos;
        if (bits >= 4095 && bits <= 4098) {
            DoubleTexts x = Look.read("#e" + digits + tens);
            String what = "bits of " + digits + tens;
            PROMISE.same(what, x.bits(true), bits <= 4096 ? bits : -1);
            PROMISE.same(what, x.bits(false), bits <= 4096 ? 1 : -1);
            PROMISE.same(what, x.kind(), bits <= 4096 ? 1 : 0);
        }
    }

    private static void exactZero() {
        PROMISE.says("more than 4096 bits: a zero has none, whatever its exponent");
        reads("#e0e9999", "exact 0");
        reads("#e0e-9999", "exact 0");
        reads("#e-.000e9999", "exact 0");
        reads("#e0." + Check.repeat("0", 390) + "e-999", "exact 0");
    }

    private static void fullText() {
        PROMISE.says("a TEXT of at most 400 characters: all of them are read");
        String nines = Check.repeat("9", 400);
        reads(nines, "exact " + nines);
        reads("-" + Check.repeat("0", 398) + "7", "exact -7");
        reads("#x" + Check.repeat("f", 398), "exact " + TWO.pow(4 * 398).subtract(BigInteger.ONE));
        reads(Check.repeat("0", 398) + ".5", 0.5);
        reads("." + Check.repeat("0", 394) + "1e395", 1.0);
        reads("." + Check.repeat("0", 399), 0.0);
        reads(Check.repeat("9", 400 - 6) + "e-0394", 1.0);
        reads("1" + Check.repeat("0", 398) + ".", Double.POSITIVE_INFINITY);
        reads("1/" + Check.repeat("9", 398), "exact 1/" + Check.repeat("9", 398));
        reads("#i1/" + Check.repeat("9", 396), 0.0);
    }

    private static void inexactRatio() {
        PROMISE.says("#i with a fraction or integer: the nearest double");
        reads("#i1/3", 1.0 / 3);
        reads("#i-2/6", -1.0 / 3);
        reads("#i6/3", 2);
        reads("#i9007199254740993", 9007199254740992.0);
        reads("#i" + Check.repeat("9", 300), 1e300);
        reads("#i" + Check.repeat("9", 398), Double.POSITIVE_INFINITY);
        reads("#i-" + Check.repeat("9", 397), Double.NEGATIVE_INFINITY);
        reads("#i" + Check.repeat("3", 198) + "/" + Check.repeat("9", 199), 1.0 / 30);
        reads("#i#x" + Check.repeat("f", 396), Double.POSITIVE_INFINITY);
    }

    private static void evenLastBit() {
        PROMISE.says("NEAREST: of two doubles as near the one with an even last bit");
        reads("9007199254740993.", 9007199254740992.0);
        reads("9007199254740995.", 9007199254740996.0);
        reads("-9007199254740993e0", -9007199254740992.0);
        reads("-9007199254740995e0", -9007199254740996.0);
        reads("18014398509481983.", 18014398509481984.0);
        reads("18014398509481986.", 18014398509481984.0);
        reads("18014398509481990.", 18014398509481992.0);
        reads("4503599627370496.5", 4503599627370496.0);
        reads("4503599627370497.5", 4503599627370498.0);
        reads("4503599627370495.75", 4503599627370496.0);
        reads("4503599627370495.25", 4503599627370495.0);
        reads("#i9007199254740993/2", 4503599627370496.0);
        reads("#i9007199254740995/2", 4503599627370498.0);
        reads("#x#i20000000000001", 9007199254740992.0);
        reads("#x#i20000000000003", 9007199254740996.0);
        reads("5e22", 5e22);
        reads("1e23", 1e23);
        reads("1.00000000000000011102230246251565404236316680908203125", 1.0);
        reads("1.00000000000000033306690738754696212708950042724609375", 1.0000000000000004);
    }

    /** Halves of the least double, over a denominator of 2^1075. */
    private static void evenLastBitOfTheLeast() {
        PROMISE.says("NEAREST: of two doubles as near the one with an even last bit: the least ones");
        String half = "/8" + Check.repeat("0", 268);
        reads("#x#i1" + half, 0.0);
        reads("#x#i-1" + half, -0.0);
        reads("#x#i2" + half, Double.MIN_VALUE);
        reads("#x#i3" + half, 2 * Double.MIN_VALUE);
        reads("#x#i5" + half, 2 * Double.MIN_VALUE);
        reads("#x#i7" + half, 4 * Double.MIN_VALUE);
        reads("#x#i10000000000001" + half + Check.repeat("0", 13), Double.MIN_VALUE);
        reads("#x#ifffffffffffff" + half + Check.repeat("0", 13), 0.0);
        reads("#x#i1fffffffffffff" + half, Double.MIN_NORMAL);
        reads("#x#i1ffffffffffffd" + half, Double.MIN_NORMAL - 2 * Double.MIN_VALUE);
        reads("#x#i20000000000001" + half, Double.MIN_NORMAL);
        reads("#x#i20000000000003" + half, Double.MIN_NORMAL + 2 * Double.MIN_VALUE);
    }

    private static void besideTheMiddle() {
        PROMISE.says("the one nearest to that value: however far behind the middle the next digit stands");
        String zeros = Check.repeat("0", 380);
        String nines = Check.repeat("9", 380);
        reads("9007199254740993." + zeros + "1", 9007199254740994.0);
        reads("9007199254740992." + nines, 9007199254740992.0);
        reads("-9007199254740995." + zeros + "1", -9007199254740996.0);
        reads("-9007199254740994." + nines, -9007199254740994.0);
        reads("9007199254740993" + Check.repeat("0", 379) + "e-379", 9007199254740992.0);
        reads("9007199254740993" + Check.repeat("0", 370) + "1e-371", 9007199254740994.0);
        reads("2.2250738585072011e-308", 2.225073858507201e-308);
        reads("2.2250738585072012e-308", Double.MIN_NORMAL);
    }

    private static void infinite() {
        PROMISE.says("2^1024 counts as one, which is infinite then");
        BigInteger middle = TWO.pow(1024).subtract(TWO.pow(970));
        reads("#i" + middle, Double.POSITIVE_INFINITY);
        reads(middle + ".", Double.POSITIVE_INFINITY);
        reads("-" + middle + "e0", Double.NEGATIVE_INFINITY);
        reads(middle.subtract(BigInteger.ONE) + "." + Check.repeat("9", 90), Double.MAX_VALUE);
        reads("#i-" + middle.subtract(BigInteger.ONE), -Double.MAX_VALUE);
        reads("#i" + TWO.pow(1024), Double.POSITIVE_INFINITY);
        reads("#i" + TWO.pow(1023), 0x1p1023);
        reads(GREATEST, Double.MAX_VALUE);
        reads("-" + GREATEST, -Double.MAX_VALUE);
        reads("1.7976931348623158e308", Double.MAX_VALUE);
        reads("1.7976931348623159e308", Double.POSITIVE_INFINITY);
        reads("1.8e308", Double.POSITIVE_INFINITY);
        reads("1e308", 1e308);
        reads("1e309", Double.POSITIVE_INFINITY);
        reads("1e310", Double.POSITIVE_INFINITY);
        reads("-1e311", Double.NEGATIVE_INFINITY);
        reads("-1e9999", Double.NEGATIVE_INFINITY);
        reads("0." + Check.repeat("0", 307) + "1e616", 1e308);
        reads("0." + Check.repeat("0", 307) + "1e617", Double.POSITIVE_INFINITY);
    }

    private static void tooSmall() {
        PROMISE.says("the one nearest to that value: 0 for what is too small");
        reads("5e-324", Double.MIN_VALUE);
        reads("3e-324", Double.MIN_VALUE);
        reads("2.4703282292062328e-324", Double.MIN_VALUE);
        reads("2.4703282292062327e-324", 0.0);
        reads("2e-324", 0.0);
        reads("9e-325", 0.0);
        reads("1e-325", 0.0);
        reads("1e-326", 0.0);
        reads("1e-9999", 0.0);
        reads(Check.repeat("9", 390) + "e-9999", 0.0);
        reads("1" + Check.repeat("0", 300) + "e-623", 1e-323);
        reads("1" + Check.repeat("0", 300) + "e-625", 0.0);
        reads("0.00001e-318", 1e-323);
    }

    private static void negativeZero() {
        PROMISE.says("A zero with the sign - is -0.0 as a double");
        String[] negative = {
            "-0.", "-.0", "-0.0", "-0e0", "-0e9999", "-0e-9999", "#i-0", "#i-0/5", "#i#x-0", "-1e-9999", "-2e-324",
            "#d-0.", "#i-0.0",
        };
        for (String text : negative) {
            reads(text, -0.0);
        }
        for (String text : new String[] {"0.", "+.0", "+0e9999", "#i0", "#i+0/5", "1e-9999"}) {
            reads(text, 0.0);
        }
        reads("-0", "exact 0");
        reads("-0/5", "exact 0");
        reads("#e-0.0", "exact 0");
        PROMISE.same("an exact zero has no sign", Look.read("-0").negative(), false);
        PROMISE.same("nor has one that was -0.0", Look.read("#e-0.0").negative(), false);
    }
}
