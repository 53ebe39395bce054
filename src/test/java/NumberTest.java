/** Promises 5 to 13: make, divide, exact, inexact, kind, negative, units, place, bits. */
public final class NumberTest {
    private static final Check CHECK = new Check();
    private static final long TOP = 1L << 52;

    public static void main(String[] args) {
        make();
        makeRounds();
        makeAtTheEnds();
        makeRefuses();
        divide();
        divideRefuses();
        exact();
        exactRefuses();
        inexact();
        inexactRefuses();
        kindAndNegative();
        unitsAndPlace();
        bits();
        CHECK.end();
    }

    private static void dueDouble(String what, DoubleTexts x, boolean negative, long units, int place) {
        CHECK.same(what + ": kind", x.kind(), 2);
        CHECK.same(what + ": negative", x.negative(), negative);
        CHECK.same(what + ": units", x.units(), units);
        CHECK.same(what + ": place", x.place(), place);
    }

    private static void dueInfinite(String what, DoubleTexts x, boolean negative) {
        CHECK.same(what + ": kind", x.kind(), 3);
        CHECK.same(what + ": negative", x.negative(), negative);
        CHECK.same(what + ": units", x.units(), -1);
        CHECK.same(what + ": place", x.place(), 0);
    }

    private static DoubleTexts made(boolean negative, long units, int place) {
        DoubleTexts x = new DoubleTexts();
        CHECK.same("make " + units + " " + place, x.make(negative, units, place), true);
        return x;
    }

    private static DoubleTexts divided(long n, long d) {
        DoubleTexts x = new DoubleTexts();
        CHECK.same("divide " + n + " " + d, x.divide(n, d), true);
        return x;
    }

    private static void make() {
        dueDouble("1", made(false, 1, 0), false, TOP, -52);
        dueDouble("-3", made(true, 3, 0), true, 3L << 51, -51);
        dueDouble("1.5", made(false, 3, -1), false, 3L << 51, -52);
        dueDouble("0", made(false, 0, 0), false, 0, -1074);
        dueDouble("-0", made(true, 0, 2000), true, 0, -1074);
        dueDouble("0 at -2000", made(false, 0, -2000), false, 0, -1074);
        dueDouble("all units", made(true, 2 * TOP - 1, 5), true, 2 * TOP - 1, 5);
    }

    private static void makeRounds() {
        dueDouble("2^53 + 1", made(false, 2 * TOP + 1, 0), false, TOP, 1);
        dueDouble("2^53 + 2", made(false, 2 * TOP + 2, 0), false, TOP + 1, 1);
        dueDouble("2^53 + 3", made(false, 2 * TOP + 3, 0), false, TOP + 2, 1);
        dueDouble("2^54 + 1", made(false, 4 * TOP + 1, 0), false, TOP, 2);
        dueDouble("2^54 + 2", made(false, 4 * TOP + 2, 0), false, TOP, 2);
        dueDouble("2^54 + 3", made(false, 4 * TOP + 3, 0), false, TOP + 1, 2);
        dueDouble("2^54 - 1", made(false, 4 * TOP - 1, 0), false, TOP, 2);
        dueDouble("greatest long", made(false, Long.MAX_VALUE, 0), false, TOP, 11);
        dueDouble("2^63 - 512", made(false, Long.MAX_VALUE - 511, 0), false, TOP, 11);
        dueDouble("2^63 - 513", made(true, Long.MAX_VALUE - 512, 0), true, 2 * TOP - 1, 10);
    }

    private static void makeAtTheEnds() {
        dueDouble("least", made(false, 1, -1074), false, 1, -1074);
        dueDouble("half the least", made(false, 1, -1075), false, 0, -1074);
        dueDouble("- half the least", made(true, 1, -1075), true, 0, -1074);
        dueDouble("over half the least", made(false, TOP + 1, -1127), false, 1, -1074);
        dueDouble("three halves of it", made(false, 3, -1075), false, 2, -1074);
        dueDouble("five halves of it", made(false, 5, -1075), false, 2, -1074);
        dueDouble("five quarters of it", made(false, 5, -1076), false, 1, -1074);
        dueDouble("seven eighths of it", made(false, 7, -1077), false, 1, -1074);
        dueDouble("least with all units", made(false, TOP, -1074), false, TOP, -1074);
        dueDouble("below that", made(false, TOP - 1, -1074), false, TOP - 1, -1074);
        dueDouble("rounded up to that", made(false, 2 * TOP - 1, -1075), false, TOP, -1074);
        dueDouble("far below", made(true, Long.MAX_VALUE, -2000), true, 0, -1074);
        dueDouble("1 at -2000", made(false, 1, -2000), false, 0, -1074);
        dueDouble("greatest", made(false, 2 * TOP - 1, 971), false, 2 * TOP - 1, 971);
        dueDouble("below the middle over it", made(false, 8 * TOP - 3, 969), false, 2 * TOP - 1, 971);
        dueInfinite("the middle over it", made(false, 4 * TOP - 1, 970), false);
        dueInfinite("2^1024", made(true, 1, 1024), true);
        dueInfinite("2^2000", made(false, 1, 2000), false);
        dueDouble("2^1023", made(false, 1, 1023), false, TOP, 971);
    }

    private static void makeRefuses() {
        DoubleTexts x = Check.typed("-7/3");
        x.read();
        CHECK.same("units -1", x.make(false, -1, 0), false);
        CHECK.same("least units", x.make(true, Long.MIN_VALUE, 0), false);
        CHECK.same("place 2001", x.make(false, 1, 2001), false);
        CHECK.same("place -2001", x.make(false, 1, -2001), false);
        CHECK.same("least place", x.make(false, 0, Integer.MIN_VALUE), false);
        CHECK.same("greatest place", x.make(false, 0, Integer.MAX_VALUE), false);
        CHECK.same("the number stays", Check.written(x, 10), "-7/3");
        CHECK.same("bits stay", x.bits(true), 2);
    }

    private static void divide() {
        dueDouble("1/3", divided(1, 3), false, 6004799503160661L, -54);
        dueDouble("-1/3", divided(-1, 3), true, 6004799503160661L, -54);
        dueDouble("0/5", divided(0, 5), false, 0, -1074);
        dueDouble("6/3", divided(6, 3), false, TOP, -51);
        dueDouble("least long", divided(Long.MIN_VALUE, 1), true, TOP, 11);
        dueDouble("greatest long", divided(Long.MAX_VALUE, 1), false, TOP, 11);
        dueDouble("1 / greatest", divided(1, Long.MAX_VALUE), false, TOP, -115);
        dueDouble("least / greatest", divided(Long.MIN_VALUE, Long.MAX_VALUE), true, TOP, -52);
        dueDouble("2^53 + 1", divided(2 * TOP + 1, 1), false, TOP, 1);
        dueDouble("2^53 + 3", divided(-2 * TOP - 3, 1), true, TOP + 2, 1);
        dueDouble("(3 * 2^53 + 4) / 3, over the middle", divided(6 * TOP + 4, 3), false, TOP + 1, 1);
        dueDouble("(3 * 2^53 + 2) / 3, below the middle", divided(6 * TOP + 2, 3), false, TOP, 1);
    }

    private static void divideRefuses() {
        DoubleTexts x = made(true, 5, 0);
        CHECK.same("by 0", x.divide(1, 0), false);
        CHECK.same("by -1", x.divide(1, -1), false);
        CHECK.same("0 by 0", x.divide(0, 0), false);
        CHECK.same("by the least", x.divide(1, Long.MIN_VALUE), false);
        dueDouble("the number stays", x, true, 5L << 50, -50);
    }

    private static void exact() {
        DoubleTexts x = divided(-1, 10);
        CHECK.same("exact", x.exact(), true);
        CHECK.same("kind", x.kind(), 1);
        CHECK.same("negative", x.negative(), true);
        CHECK.same("-0.1", Check.written(x, 10), "-3602879701896397/36028797018963968");
        CHECK.same("units of an exact one", x.units(), -1);
        CHECK.same("place of an exact one", x.place(), 0);
        x = made(true, 0, 0);
        CHECK.same("exact -0.0", x.exact(), true);
        CHECK.same("negative is not", x.negative(), false);
        CHECK.same("0", Check.written(x, 10), "0");
        CHECK.same("denominator 1", x.bits(true), 1);
        x = made(false, 6, -1);
        x.exact();
        CHECK.same("3", Check.written(x, 10), "3");
        x = made(true, 1, 100);
        x.exact();
        CHECK.same("2^100", Check.written(x, 16), "-10000000000000000000000000");
        x = made(false, 1, -1074);
        x.exact();
        CHECK.same("least: numerator", x.bits(false), 1);
        CHECK.same("least: denominator", x.bits(true), 1075);
        x = made(false, 2 * TOP - 1, 971);
        x.exact();
        CHECK.same("greatest: numerator", x.bits(false), 1024);
        CHECK.same("greatest: denominator", x.bits(true), 1);
        CHECK.same("greatest: written", x.write(10), 309);
    }

    private static void exactRefuses() {
        DoubleTexts x = new DoubleTexts();
        CHECK.same("none", x.exact(), false);
        CHECK.same("stays none", x.kind(), 0);
        x = made(true, 1, 2000);
        CHECK.same("infinite", x.exact(), false);
        dueInfinite("stays infinite", x, true);
        x = Check.typed("+nan.0");
        x.read();
        CHECK.same("a NaN", x.exact(), false);
        CHECK.same("stays one", x.kind(), 4);
        x = Check.typed("1/3");
        x.read();
        CHECK.same("an exact one", x.exact(), false);
        CHECK.same("stays it", Check.written(x, 10), "1/3");
    }

    private static void inexact() {
        due("1/3", false, 6004799503160661L, -54);
        due("-1/3", true, 6004799503160661L, -54);
        due("0", false, 0, -1074);
        due("-0", false, 0, -1074);
        due("9007199254740993", false, TOP, 1);
        due("9007199254740995", false, TOP + 2, 1);
        due("#e1e-1233", false, 0, -1074);
        due("#e-1e-1233", true, 0, -1074);
        due("#e1.5e-323", false, 3, -1074);
        DoubleTexts x = Check.typed("#e-1e1233");
        x.read();
        CHECK.same("inexact", x.inexact(), true);
        dueInfinite("-10^1233", x, true);
        x = made(false, 2 * TOP - 1, -1074);
        x.exact();
        x.inexact();
        dueDouble("there and back", x, false, 2 * TOP - 1, -1074);
    }

    private static void due(String text, boolean negative, long units, int place) {
        DoubleTexts x = Check.typed(text);
        x.read();
        CHECK.same("inexact " + text, x.inexact(), true);
        dueDouble("inexact " + text, x, negative, units, place);
    }

    private static void inexactRefuses() {
        DoubleTexts x = new DoubleTexts();
        CHECK.same("none", x.inexact(), false);
        x = made(true, 0, 0);
        CHECK.same("-0.0", x.inexact(), false);
        dueDouble("stays", x, true, 0, -1074);
        x = made(false, 1, 2000);
        CHECK.same("infinite", x.inexact(), false);
        dueInfinite("stays infinite", x, false);
        x = Check.typed("-nan.0");
        x.read();
        CHECK.same("a NaN", x.inexact(), false);
        CHECK.same("stays one", x.kind(), 4);
    }

    private static void kindAndNegative() {
        kind("", 0, false);
        kind("-5", 1, true);
        kind("5", 1, false);
        kind("-1/2", 1, true);
        kind("-0", 1, false);
        kind("#e-0.0", 1, false);
        kind("-0.0", 2, true);
        kind("0.0", 2, false);
        kind("-1e-9999", 2, true);
        kind("-5.", 2, true);
        kind("-inf.0", 3, true);
        kind("+inf.0", 3, false);
        kind("-1e400", 3, true);
        kind("+nan.0", 4, false);
        kind("-nan.0", 4, false);
    }

    private static void kind(String text, int kind, boolean negative) {
        DoubleTexts x = Check.typed(text);
        x.make(true, 1, 0);
        x.read();
        CHECK.same("kind of " + text, x.kind(), kind);
        CHECK.same("negative of " + text, x.negative(), negative);
    }

    private static void unitsAndPlace() {
        DoubleTexts x = Check.typed("-0.1");
        x.read();
        dueDouble("-0.1", x, true, 7205759403792794L, -56);
        x = Check.typed("7");
        x.read();
        CHECK.same("units of an exact one", x.units(), -1);
        CHECK.same("place of an exact one", x.place(), 0);
        x = Check.typed("+nan.0");
        x.make(false, 1, 0);
        x.read();
        CHECK.same("units of a NaN", x.units(), -1);
        CHECK.same("place of a NaN", x.place(), 0);
    }

    private static void bits() {
        bits("0", 0, 1);
        bits("1", 1, 1);
        bits("-255", 8, 1);
        bits("256", 9, 1);
        bits("4294967295", 32, 1);
        bits("4294967296", 33, 1);
        bits("-6/4", 2, 2);
        bits("0/9", 0, 1);
        bits("3/1024", 2, 11);
        bits("1.5", -1, -1);
        bits("+inf.0", -1, -1);
        bits("+nan.0", -1, -1);
        bits("x", -1, -1);
        bits("#x" + Check.repeat("f", 398), 1592, 1);
    }

    private static void bits(String text, int numerator, int denominator) {
        DoubleTexts x = Check.typed(text);
        x.read();
        CHECK.same("bits of " + text, x.bits(false), numerator);
        CHECK.same("denominator's bits of " + text, x.bits(true), denominator);
    }
}
