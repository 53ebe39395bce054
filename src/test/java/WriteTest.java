import java.math.BigInteger;

/** Promise 14, write, and the term WRITTEN. */
public final class WriteTest {
    private static final Check CHECK = new Check();

    public static void main(String[] args) {
        exactInEveryBase();
        longExact();
        everyLength();
        bases();
        plainDoubles();
        forms();
        shortest();
        endsOfTheNearest();
        narrowBelow();
        ties();
        shorterAfterLonger();
        unchangedNumber();
        CHECK.end();
    }

    private static void due(String text, int base, String written) {
        DoubleTexts x = Check.typed(text);
        x.read();
        CHECK.same(text + " in base " + base, Check.written(x, base), written);
        CHECK.same(text + ": the end", x.out(written.length()), -1);
    }

    private static void exactInEveryBase() {
        String digits = "1000000007/123456789012345678901234567890";
        String[] parts = digits.split("/");
        for (int base = 2; base <= 16; base++) {
            String upper = new BigInteger(parts[0]).toString(base);
            String lower = new BigInteger(parts[1]).toString(base);
            due("-" + digits, base, "-" + upper + "/" + lower);
            due(parts[1], base, lower);
            due("0", base, "0");
            due("-1", base, "-1");
            due("" + (base - 1), base, base == 16 ? "f" : Integer.toString(base - 1, base));
            due("" + base, base, "10");
        }
    }

    private static void longExact() {
        DoubleTexts x = Check.typed("#e-1e1233");
        x.read();
        String ten = "-1" + Check.repeat("0", 1233);
        CHECK.same("10^1233", Check.written(x, 10), ten);
        BigInteger value = new BigInteger(ten);
        for (int base = 2; base <= 16; base++) {
            CHECK.same("10^1233 in base " + base, Check.written(x, base), value.toString(base));
        }
        CHECK.same("4097 characters", x.write(2), 4097);
        x = Check.typed("#e-" + Check.repeat("7", 388) + "e-1233");
        x.read();
        BigInteger upper = new BigInteger(Check.repeat("7", 388));
        BigInteger lower = BigInteger.TEN.pow(1233);
        for (int base = 2; base <= 16; base++) {
            CHECK.same("7..7e-1233 in base " + base, Check.written(x, base),
                "-" + upper.toString(base) + "/" + lower.toString(base));
        }
    }

    /** Powers of two in base 2, over the length at which the output takes more room. */
    private static void everyLength() {
        for (int n = 300; n < 520; n++) {
            DoubleTexts x = new DoubleTexts();
            x.make(true, 1, n);
            x.exact();
            CHECK.same("-2^" + n, Check.written(x, 2), "-1" + Check.repeat("0", n));
            x.make(false, 1, -n);
            x.exact();
            CHECK.same("2^-" + n, Check.written(x, 2), "1/1" + Check.repeat("0", n));
        }
    }

    private static void bases() {
        String[] texts = {"15", "1.5", "+inf.0", "-nan.0", ""};
        int[] others = {Integer.MIN_VALUE, -10, -1, 0, 1, 17, 36, 266, Integer.MAX_VALUE};
        for (String text : texts) {
            DoubleTexts x = Check.typed("3");
            x.read();
            x.write(10);
            x.clear();
            Check.type(x, text);
            x.read();
            for (int base : others) {
                CHECK.same("write(" + base + ") of " + text, x.write(base), -1);
            }
            for (int base = 2; base <= 16 && x.kind() != 1; base++) {
                if (base != 10 || x.kind() == 0) {
                    CHECK.same("write(" + base + ") of " + text, x.write(base), -1);
                }
            }
            CHECK.same("the output stays", x.out(0), '3');
            CHECK.same("its length stays", x.out(1), -1);
        }
    }

    private static void plainDoubles() {
        due("0.0", 10, "0.0");
        due("-0.0", 10, "-0.0");
        due("1.0", 10, "1.0");
        due("-1.0", 10, "-1.0");
        due("10.0", 10, "10.0");
        due("100.5", 10, "100.5");
        due("123456.789", 10, "123456.789");
        due("0.5", 10, "0.5");
        due("-0.05", 10, "-0.05");
        due("+inf.0", 10, "+inf.0");
        due("-inf.0", 10, "-inf.0");
        due("+nan.0", 10, "+nan.0");
        due("-nan.0", 10, "+nan.0");
    }

    private static void forms() {
        due("1e20", 10, "100000000000000000000.0");
        due("123456789012345680000e0", 10, "123456789012345680000.0");
        due("999999999999999900000e0", 10, "999999999999999900000.0");
        due("1e21", 10, "1e21");
        due("1.5e21", 10, "1.5e21");
        due("-1.25e22", 10, "-1.25e22");
        due("1e100", 10, "1e100");
        due("1e-6", 10, "0.000001");
        due("1.5e-6", 10, "0.0000015");
        due("1e-7", 10, "0.0000001");
        due("1.25e-7", 10, "0.000000125");
        due("9.5e-7", 10, "0.00000095");
        due("1e-8", 10, "1e-8");
        due("9.5e-8", 10, "9.5e-8");
        due("-1.5e-10", 10, "-1.5e-10");
        due("1e-100", 10, "1e-100");
        due("0.1", 10, "0.1");
    }

    private static void shortest() {
        due("5e-324", 10, "5e-324");
        due("1e-323", 10, "1e-323");
        due("1.5e-323", 10, "1.5e-323");
        due("1.7976931348623157e308", 10, "1.7976931348623157e308");
        due("2.2250738585072014e-308", 10, "2.2250738585072014e-308");
        due("2.225073858507201e-308", 10, "2.225073858507201e-308");
        due("0.30000000000000004", 10, "0.30000000000000004");
        due("0.3", 10, "0.3");
        due("2e-3", 10, "0.002");
        due("1e23", 10, "1e23");
        // 1e23 lies in the middle of two doubles; the lower one has even units, so one digit tells it.
        due("9.999999999999999e22", 10, "1e23");
        due("1.0000000000000001e23", 10, "1.0000000000000001e23");
        due("9.999999999999997e22", 10, "9.999999999999997e22");
        due("5e22", 10, "5e22");
        due("4.35", 10, "4.35");
        due("9007199254740991.0", 10, "9007199254740991.0");
        due("9007199254740992.0", 10, "9007199254740992.0");
        due("18014398509481984.0", 10, "18014398509481984.0");
        due("2.2204460492503131e-16", 10, "2.220446049250313e-16");
        due("0.9999999999999999", 10, "0.9999999999999999");
        due("1.0000000000000002", 10, "1.0000000000000002");
    }

    /** Shorter decimals just in the middle to a neighbour: they count for even units only. */
    private static void endsOfTheNearest() {
        made((1L << 52) + 1, 2, "18014398509481988.0");
        made((1L << 52) + 2, 2, "18014398509481990.0");
        made(5960464477539062L, 24, "1e23");
        made(5960464477539063L, 24, "1.0000000000000001e23");
    }

    private static void shorterAfterLonger() {
        DoubleTexts x = new DoubleTexts();
        x.divide(1234567, 1000);
        CHECK.same("longer", Check.written(x, 10), "1234.567");
        x.divide(1000, 1);
        CHECK.same("shorter", Check.written(x, 10), "1000.0");
        x.divide(0, 1);
        CHECK.same("0", Check.written(x, 10), "0.0");
        x.divide(1, 3);
        x.exact();
        x.write(2);
        x.inexact();
        CHECK.same("a double after an exact one", Check.written(x, 10), "0.3333333333333333");
    }

    /** Powers of two, whose neighbour below is nearer than the one above. */
    private static void narrowBelow() {
        made(1, -1022, "2.2250738585072014e-308");
        made(1, -1021, "4.450147717014403e-308");
        made(1, 1023, "8.98846567431158e307");
        made(1, 89, "6.189700196426902e26");
        made(1, -44, "5.684341886080802e-14");
        made(1, -24, "5.960464477539063e-8");
        made(1, 122, "5.316911983139664e36");
    }

    private static void made(long units, int place, String written) {
        DoubleTexts x = new DoubleTexts();
        x.make(false, units, place);
        CHECK.same(units + " * 2^" + place, Check.written(x, 10), written);
    }

    private static void ties() {
        due("1125899906842624.25", 10, "1125899906842624.2");
        due("1125899906842624.75", 10, "1125899906842624.8");
        due("-2251799813685247.25", 10, "-2251799813685247.2");
        due("562949953421312.125", 10, "562949953421312.1");
        due("562949953421312.375", 10, "562949953421312.4");
        due("140737488355328.0625", 10, "140737488355328.06");
    }

    private static void unchangedNumber() {
        DoubleTexts x = Check.typed("-22/7");
        x.read();
        x.write(2);
        x.write(16);
        CHECK.same("written again", Check.written(x, 10), "-22/7");
        CHECK.same("bits", x.bits(false), 5);
        x.inexact();
        CHECK.same("a double", Check.written(x, 10), "-3.142857142857143");
        CHECK.same("again", Check.written(x, 10), "-3.142857142857143");
        long units = x.units();
        CHECK.same("units", x.units(), units);
        x.write(10);
        CHECK.same("place", x.place(), -51);
        CHECK.same("units after write", x.units(), units);
    }
}
