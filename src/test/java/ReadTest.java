import java.math.BigInteger;

/** Promise 4, read, and the term THE TEXT OF A NUMBER. */
public final class ReadTest {
    private static final Check CHECK = new Check();

    public static void main(String[] args) {
        integers();
        fractions();
        prefixes();
        decimals();
        exactDecimals();
        inexact();
        words();
        noNumbers();
        bitLimits();
        nearest();
        failureMakesNone();
        CHECK.end();
    }

    /** The answer of read, and what is written afterwards in base 10. */
    private static void due(String text, int answer, String written) {
        DoubleTexts x = Check.typed(text);
        x.divide(1, 1);
        CHECK.same("read " + text, x.read(), answer);
        CHECK.same("kind after " + text, x.kind() > 2 ? 2 : x.kind(), answer);
        CHECK.same(text, Check.written(x, 10), written);
    }

    private static void integers() {
        due("0", 1, "0");
        due("-0", 1, "0");
        due("+0", 1, "0");
        due("7", 1, "7");
        due("+12", 1, "12");
        due("-12", 1, "-12");
        due("00012", 1, "12");
        due("4294967295", 1, "4294967295");
        due("4294967296", 1, "4294967296");
        due("-18446744073709551616", 1, "-18446744073709551616");
        due(Check.repeat("9", 400), 1, Check.repeat("9", 400));
        due(Check.repeat("0", 400), 1, "0");
    }

    private static void fractions() {
        due("1/2", 1, "1/2");
        due("-6/4", 1, "-3/2");
        due("+6/3", 1, "2");
        due("0/7", 1, "0");
        due("-0/7", 1, "0");
        due("007/0021", 1, "1/3");
        due("1024/4096", 1, "1/4");
        due("12/1", 1, "12");
        due("18446744073709551616/4294967296", 1, "4294967296");
        due("340282366920938463463374607431768211455/18446744073709551615", 1, "18446744073709551617");
        due(Check.repeat("3", 199) + "/" + Check.repeat("9", 199), 1, "1/3");
        commonFactors();
        due("1/0", 0, "none");
        due("1/000", 0, "none");
        due("0/0", 0, "none");
        due("#i1/0", 0, "none");
        due("/2", 0, "none");
        due("1/", 0, "none");
        due("1/-2", 0, "none");
        due("1/+2", 0, "none");
        due("1/2/3", 0, "none");
        due("1/2.", 0, "none");
        due("1./2", 0, "none");
        due("1/2e1", 0, "none");
        due("1e1/2", 0, "none");
        due("1 / 2", 0, "none");
    }

    /** Fractions that have great factors in common, even and odd ones. */
    private static void commonFactors() {
        BigInteger upper = new BigInteger("fedcba9876543210f0e1d2c3b4a5968778695a4b3c2d1e0f", 16);
        BigInteger lower = new BigInteger("ffffffff00000001fffffffe80000003", 16);
        BigInteger once = upper.gcd(lower);
        String lowest = upper.divide(once) + "/" + lower.divide(once);
        BigInteger factor = BigInteger.ONE;
        for (int i = 0; i < 60; i++) {
            factor = factor.multiply(BigInteger.valueOf(i % 3 == 0 ? 2 : 65521 - 2 * i)).setBit(0);
            for (int twos = 0; twos < 40; twos += 13) {
                BigInteger common = factor.shiftLeft(twos);
                String text = upper.multiply(common) + "/" + lower.multiply(common);
                if (text.length() <= 400) {
                    due(text, 1, lowest);
                    due(lower.multiply(common) + "/" + common, 1, lower.toString());
                }
            }
        }
    }

    private static void prefixes() {
        due("#xfF", 1, "255");
        due("#xAbCdEf", 1, "11259375");
        due("#xaBcDeF", 1, "11259375");
        due("#b-101", 1, "-5");
        due("#o17", 1, "15");
        due("#d19", 1, "19");
        due("#x1e2", 1, "482");
        due("#x1E2", 1, "482");
        due("#xe", 1, "14");
        due("#x+F/-3", 0, "none");
        due("#xF/3", 1, "5");
        due("#b1/11", 1, "1/3");
        due("#e#x10", 1, "16");
        due("#x#e10", 1, "16");
        due("#i#x10", 2, "16.0");
        due("#b#i-1/10", 2, "-0.5");
        due("#d#e1.5", 1, "3/2");
        due("#e#d1.5", 1, "3/2");
        due("#d1.5", 2, "1.5");
        due("#e7", 1, "7");
        due("#e7/14", 1, "1/2");
        due("#X10", 0, "none");
        due("#E10", 0, "none");
        due("#I10", 0, "none");
        due("#B10", 0, "none");
        due("#O10", 0, "none");
        due("#D10", 0, "none");
        due("#x#x10", 0, "none");
        due("#x#d10", 0, "none");
        due("#d#x10", 0, "none");
        due("#e#e10", 0, "none");
        due("#e#i10", 0, "none");
        due("#i#e10", 0, "none");
        due("#e#x#e10", 0, "none");
        due("#x#e#x10", 0, "none");
        due("#e#x#i10", 0, "none");
        due("#", 0, "none");
        due("##x1", 0, "none");
        due("#x", 0, "none");
        due("#x#", 0, "none");
        due("#x#e", 0, "none");
        due("#a1", 0, "none");
        due("+#x1", 0, "none");
        due("1#x", 0, "none");
        due("# x1", 0, "none");
        due("#xg", 0, "none");
        due("#xG", 0, "none");
        due("#x1.5", 0, "none");
        due("#x.5", 0, "none");
        due("#b2", 0, "none");
        due("#b1.1", 0, "none");
        due("#b1e1", 0, "none");
        due("#o8", 0, "none");
        due("#o1e1", 0, "none");
        due("a", 0, "none");
        due("1a", 0, "none");
    }

    private static void decimals() {
        due("1.5", 2, "1.5");
        due("1.", 2, "1.0");
        due(".5", 2, "0.5");
        due("-.5", 2, "-0.5");
        due("+.5e1", 2, "5.0");
        due("5.e1", 2, "50.0");
        due("1e0", 2, "1.0");
        due("1E0", 2, "1.0");
        due("1e+2", 2, "100.0");
        due("1E-2", 2, "0.01");
        due("1e0002", 2, "100.0");
        due("1e-0002", 2, "0.01");
        due("0.0", 2, "0.0");
        due("-0.0", 2, "-0.0");
        due("-.0", 2, "-0.0");
        due("-0e9999", 2, "-0.0");
        due("0e-9999", 2, "0.0");
        due("1e9999", 2, "+inf.0");
        due("-1e9999", 2, "-inf.0");
        due("1e-9999", 2, "0.0");
        due("-1e-9999", 2, "-0.0");
        due("0." + Check.repeat("0", 390) + "1e391", 2, "1.0");
        due("1" + Check.repeat("0", 390) + ".e-390", 2, "1.0");
        due("1" + Check.repeat("0", 390) + "e-0391", 2, "0.1");
        due(Check.repeat("9", 394) + "e-0395", 2, "0.1");
        due(".", 0, "none");
        due("+.", 0, "none");
        due("..5", 0, "none");
        due("1..5", 0, "none");
        due("1.5.", 0, "none");
        due("1e", 0, "none");
        due("1e+", 0, "none");
        due("1e-", 0, "none");
        due("1e+-1", 0, "none");
        due("1e12345", 0, "none");
        due("1e00001", 0, "none");
        due("1e1.", 0, "none");
        due("1e1e1", 0, "none");
        due("e1", 0, "none");
        due("E", 0, "none");
        due(".e1", 0, "none");
        due("+e1", 0, "none");
        due("1f1", 0, "none");
        due("1e1f", 0, "none");
    }

    private static void exactDecimals() {
        due("#e1.5e2", 1, "150");
        due("#e1.5", 1, "3/2");
        due("#e-.125", 1, "-1/8");
        due("#e0.1", 1, "1/10");
        due("#e5.", 1, "5");
        due("#e0.0e9999", 1, "0");
        due("#e-0.0e-9999", 1, "0");
        due("#e12.50e-1", 1, "5/4");
        due("#e2.5e1", 1, "25");
        due("#e100e-2", 1, "1");
        due("#e1E3", 1, "1000");
        due("#e1e20", 1, "1" + Check.repeat("0", 20));
        due("#e1e-20", 1, "1/1" + Check.repeat("0", 20));
        due("#e6103515625e-13", 1, "5/8192");
    }

    private static void inexact() {
        due("#i5", 2, "5.0");
        due("#i-0", 2, "-0.0");
        due("#i+0", 2, "0.0");
        due("#i0", 2, "0.0");
        due("#i-0/3", 2, "-0.0");
        due("#i1/3", 2, "0.3333333333333333");
        due("#i-2/4", 2, "-0.5");
        due("#i1.5", 2, "1.5");
        due("#i9007199254740993", 2, "9007199254740992.0");
        due("#i9007199254740995", 2, "9007199254740996.0");
        due("#i1" + Check.repeat("0", 390), 2, "+inf.0");
        due("#i-1/1" + Check.repeat("0", 390), 2, "-0.0");
        due("#i1/1" + Check.repeat("0", 323), 2, "1e-323");
        due("#i" + Check.repeat("7", 190) + "/" + Check.repeat("7", 190), 2, "1.0");
    }

    private static void words() {
        due("+inf.0", 2, "+inf.0");
        due("-inf.0", 2, "-inf.0");
        due("+nan.0", 2, "+nan.0");
        due("-nan.0", 2, "+nan.0");
        due("#i-inf.0", 2, "-inf.0");
        due("#i+nan.0", 2, "+nan.0");
        due("#d+inf.0", 2, "+inf.0");
        due("#x-inf.0", 2, "-inf.0");
        due("#b#i+nan.0", 2, "+nan.0");
        due("#e+inf.0", 0, "none");
        due("#e-nan.0", 0, "none");
        due("#x#e+inf.0", 0, "none");
        due("inf.0", 0, "none");
        due("nan.0", 0, "none");
        due("+Inf.0", 0, "none");
        due("+INF.0", 0, "none");
        due("+NaN.0", 0, "none");
        due("+inf", 0, "none");
        due("+inf.", 0, "none");
        due("+inf.1", 0, "none");
        due("+inf.00", 0, "none");
        due("+inf.0e1", 0, "none");
        due("+1inf.0", 0, "none");
        due("++inf.0", 0, "none");
        due("-nan.0 ", 0, "none");
    }

    private static void noNumbers() {
        due("", 0, "none");
        due("+", 0, "none");
        due("-", 0, "none");
        due("+-1", 0, "none");
        due("1-", 0, "none");
        due("1+1", 0, "none");
        due(" 1", 0, "none");
        due("1 ", 0, "none");
        due("1\n", 0, "none");
        due("\0", 0, "none");
        due("1\0", 0, "none");
        due("1.5\0", 0, "none");
        due("1,5", 0, "none");
        due("1_0", 0, "none");
        due(":", 0, "none");
        due("`", 0, "none");
        due("@", 0, "none");
    }

    private static void bitLimits() {
        bits("#e1e1233", 4096, 1);
        bits("#e1e1234", -1, -1);
        bits("#e1.044e1233", 4096, 1);
        bits("#e1.045e1233", -1, -1);
        bits("#e-1e1233", 4096, 1);
        bits("#e0.001e1236", 4096, 1);
        bits("#e100e1231", 4096, 1);
        bits("#e1e9999", -1, -1);
        bits("#e1e-1233", 1, 4096);
        bits("#e1e-1234", -1, -1);
        bits("#e2e-1234", 1, 4099);
        bits("#e8e-1234", 1, 4097);
        bits("#e16e-1234", 1, 4096);
        bits("#e5e-1234", 1, 4097);
        bits("#e25e-1234", 1, 4095);
        bits("#e1e-9999", -1, -1);
        bits("#e" + "0." + Check.repeat("0", 380) + "1e9999", -1, -1);
        // 2^1290 takes 1290 twos out of 10^1603: 5^1603 * 2^313 is left.
        bits("#e" + BigInteger.TWO.pow(1290) + "e-1603", 1, 313 + bitsOfFive(1603));
        bits("#e" + BigInteger.valueOf(5).pow(555) + "e-1690", 1, 1690 + bitsOfFive(1135));
        bits("#e" + BigInteger.valueOf(5).pow(550) + "e-550", 1, 551);
        bits("#e" + BigInteger.valueOf(5).pow(550) + "e-549", bitsOfFive(1), 550);
    }

    private static int bitsOfFive(int fives) {
        return BigInteger.valueOf(5).pow(fives).bitLength();
    }

    private static void bits(String text, int numerator, int denominator) {
        boolean fits = numerator <= 4096 && denominator <= 4096 && numerator >= 0;
        DoubleTexts x = Check.typed(text);
        CHECK.same("read " + text, x.read(), fits ? 1 : 0);
        CHECK.same("bits of " + text, x.bits(false), fits ? numerator : -1);
        CHECK.same("denominator's bits of " + text, x.bits(true), fits ? denominator : -1);
    }

    private static void nearest() {
        due("1.7976931348623157e308", 2, "1.7976931348623157e308");
        due("1.7976931348623158e308", 2, "1.7976931348623157e308");
        due("1.7976931348623159e308", 2, "+inf.0");
        due("-1.7976931348623159e308", 2, "-inf.0");
        BigInteger infiniteFrom = BigInteger.TWO.pow(1024)
            .subtract(BigInteger.TWO.pow(970));
        due("#i" + infiniteFrom, 2, "+inf.0");
        due(infiniteFrom + ".0", 2, "+inf.0");
        due("#i" + infiniteFrom.subtract(BigInteger.ONE), 2, "1.7976931348623157e308");
        due(infiniteFrom.subtract(BigInteger.ONE) + ".9999", 2, "1.7976931348623157e308");
        due("2.4703282292062327e-324", 2, "0.0");
        due("2.4703282292062328e-324", 2, "5e-324");
        due("-2.4703282292062327e-324", 2, "-0.0");
        due("7.4e-324", 2, "5e-324");
        due("7.5e-324", 2, "1e-323");
        due("2.2250738585072011e-308", 2, "2.225073858507201e-308");
        due("2.2250738585072012e-308", 2, "2.2250738585072014e-308");
        due("9007199254740993.0", 2, "9007199254740992.0");
        due("9007199254740993.00000000000000000000000000000000000000001", 2, "9007199254740994.0");
        due("9007199254740992.99999999999999999999999999999999999999999", 2, "9007199254740992.0");
        due("9007199254740995e0", 2, "9007199254740996.0");
        due("1e23", 2, "1e23");
        due("8.5e22", 2, "8.5e22");
    }

    private static void failureMakesNone() {
        DoubleTexts x = Check.typed("-5");
        x.read();
        x.write(10);
        x.clear();
        CHECK.same("read of the empty text", x.read(), 0);
        CHECK.same("kind", x.kind(), 0);
        CHECK.same("negative", x.negative(), false);
        CHECK.same("bits", x.bits(false), -1);
        CHECK.same("write", x.write(10), -1);
        CHECK.same("the output stays", x.out(0), '-');
        Check.type(x, "#e-1e5000");
        x.make(true, 3, 3);
        CHECK.same("read of what has too many bits", x.read(), 0);
        CHECK.same("kind of it", x.kind(), 0);
        CHECK.same("units of it", x.units(), -1);
        CHECK.same("negative of it", x.negative(), false);
    }
}
