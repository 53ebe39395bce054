/** Promise 4, read, with the forms of THE TEXT OF A NUMBER; the values of its numbers are in Promise04ValueTest. */
public final class Promise04Test {
    private static final Promise PROMISE = new Promise(4);
    private static final String[] BASES = {"#x", "#b", "#o", "#d"};
    private static final int[] BASE_NUMBERS = {16, 2, 8, 10};
    private static final String[] EXACTNESSES = {"#e", "#i"};

    public static void main(String[] args) {
        answers();
        toldNone();
        textAndOutputStay();
        basePrefixes();
        exactnessPrefixes();
        eitherOrder();
        eachOnce();
        sign();
        digitsOfTheBase();
        fraction();
        denominatorNotZero();
        point();
        atLeastOneDigit();
        exponent();
        exponentDigits();
        onlyInBaseTen();
        makesADouble();
        words();
        wordsNotExact();
        greatOrSmall();
        smallOnly();
        nothingBesides();
        PROMISE.end();
    }

    private static void reads(String text, String number) {
        DoubleTexts x = Check.typed(text);
        PROMISE.same("read " + text, x.read(), number.startsWith("exact") ? 1 : 2);
        PROMISE.same(text, Look.number(x), number);
    }

    private static void reads(String text, double value) {
        reads(text, Look.number(value));
    }

    private static void tellNone(String... texts) {
        for (String text : texts) {
            DoubleTexts x = Check.typed(text);
            x.make(true, 3, 0);
            PROMISE.same("read " + text, x.read(), 0);
            PROMISE.same("kind after " + text, x.kind(), 0);
        }
    }

    private static void answers() {
        PROMISE.says("1 exact, 2 a double");
        PROMISE.same("0", Check.typed("0").read(), 1);
        PROMISE.same("-1/2", Check.typed("-1/2").read(), 1);
        PROMISE.same("0.5", Check.typed("0.5").read(), 2);
        PROMISE.same("-0.0", Check.typed("-0.0").read(), 2);
        PROMISE.same("an infinite one", Check.typed("+inf.0").read(), 2);
        PROMISE.same("too great a one", Check.typed("1e999").read(), 2);
        PROMISE.same("a NaN", Check.typed("-nan.0").read(), 2);
    }

    private static void toldNone() {
        PROMISE.says("0, and it becomes none, if the text tells none");
        String[] texts = {"", "x", "-", "1/0", "#e1e1234", "#e-1e-1234", "#e+inf.0", "1e12345"};
        for (String sort : Look.SORTS) {
            for (String text : texts) {
                DoubleTexts x = Look.ready(sort);
                x.clear();
                Check.type(x, text);
                PROMISE.same(text + " after " + sort, x.read(), 0);
                x.clear();
                PROMISE.same(text + " then " + sort, Look.all(x),
                    "output 42, number none (0 false -1 0 -1 -1), text of 1: 1 exact 3");
            }
        }
    }

    private static void textAndOutputStay() {
        PROMISE.says("The number becomes the one that the text tells: nothing else changes");
        for (String sort : Look.SORTS) {
            DoubleTexts x = Look.ready("5");
            x.clear();
            Check.type(x, sort);
            int answer = x.read();
            PROMISE.same("output after " + sort, Look.output(x), "42");
            String number = Look.number(x);
            PROMISE.same("read again " + sort, x.read(), answer);
            PROMISE.same("the same again " + sort, Look.number(x), number);
            PROMISE.same("length after " + sort, x.type('0'), sort.length() + 1);
        }
    }

    private static void basePrefixes() {
        PROMISE.says("prefixes #x #b #o #d (base 16, 2, 8, 10; else 10)");
        for (int i = 0; i < BASES.length; i++) {
            reads(BASES[i] + "10", "exact " + BASE_NUMBERS[i]);
            reads(BASES[i] + "-101/11", "exact -" + (BASE_NUMBERS[i] * BASE_NUMBERS[i] + 1) + "/"
                + (BASE_NUMBERS[i] + 1));
        }
        reads("10", "exact 10");
        for (char c = 0; c < 128; c++) {
            if ("xbodei".indexOf(c) < 0) {
                tellNone("#" + c + "10");
            }
        }
        tellNone("#", "#x", "#b", "#o", "#d", "##x1", "x10", "x#10", "#x#", "1#x", "1#", "#x1#");
    }

    private static void exactnessPrefixes() {
        PROMISE.says("and #e #i (made exact or inexact)");
        reads("#e1.5", "exact 3/2");
        reads("#e3", "exact 3");
        reads("#e3/6", "exact 1/2");
        reads("#i1.5", 1.5);
        reads("#i3", 3);
        reads("#i3/6", 0.5);
        tellNone("#e", "#i", "#e#", "#e-", "#i+");
    }

    private static void eitherOrder() {
        PROMISE.says("in either order");
        for (int i = 0; i < BASES.length; i++) {
            reads(BASES[i] + "#e11", "exact " + (BASE_NUMBERS[i] + 1));
            reads("#e" + BASES[i] + "11", "exact " + (BASE_NUMBERS[i] + 1));
            reads(BASES[i] + "#i-11", -BASE_NUMBERS[i] - 1);
            reads("#i" + BASES[i] + "-11", -BASE_NUMBERS[i] - 1);
        }
    }

    private static void eachOnce() {
        PROMISE.says("each at most once");
        for (String base : BASES) {
            for (String other : BASES) {
                tellNone(base + other + "1", base + "#e" + other + "1", "#i" + base + other + "1");
            }
        }
        for (String exactness : EXACTNESSES) {
            for (String other : EXACTNESSES) {
                tellNone(exactness + other + "1", exactness + "#d" + other + "1", "#x" + exactness + other + "1");
            }
        }
    }

    private static void sign() {
        PROMISE.says("then a sign or none");
        reads("5", "exact 5");
        reads("+5", "exact 5");
        reads("-5", "exact -5");
        reads("#x-a", "exact -10");
        reads("#e#x+a", "exact 10");
        reads("+1/2", "exact 1/2");
        reads("-.5", -0.5);
        reads("+5.", 5);
        tellNone("+", "-", "++5", "--5", "+-5", "-+5", "5+", "5-", "+#x5", "-#e5", "#x+", "#e-", "#x+#e5", "- 5", "~5");
    }

    /** Every character behind every prefix of a base. */
    private static void digitsOfTheBase() {
        PROMISE.says("digits of the base");
        for (int i = 0; i < BASES.length; i++) {
            for (char c = 0; c < 128; c++) {
                int digit = Character.digit(c, BASE_NUMBERS[i]);
                if (digit >= 0) {
                    reads(BASES[i] + c, "exact " + digit);
                    reads(BASES[i] + "1" + c, "exact " + (BASE_NUMBERS[i] + digit));
                } else {
                    tellNone(BASES[i] + c);
                }
            }
        }
        tellNone("", "#b12", "#b21", "#o78", "#o87", "9a", "#d9A", "#xfg", "#xG1", "#b1/2", "#o1/8", "1/a", "#x1/g");
    }

    private static void fraction() {
        PROMISE.says("digits / digits");
        reads("1/2", "exact 1/2");
        reads("-6/4", "exact -3/2");
        reads("#xfF/A", "exact 51/2");
        tellNone("/", "1/", "/2", "-/2", "+1/", "1//2", "1/2/", "1/2/3", "/1/2", "1/-2", "1/+2", "1\\2", "1:2", "1 /2",
            "1/ 2", "1/.5", ".5/1", "1./2", "1/2.", "1/2e1", "1e1/2", "#e1/2.5", "+inf.0/1", "1/+inf.0", "#x/1",
            "#x1/");
    }

    private static void denominatorNotZero() {
        PROMISE.says("(denominator not 0)");
        tellNone("1/0", "0/0", "-1/0", "1/00", "1/" + Check.repeat("0", 398), "#e1/0", "#i1/0", "#i-0/0", "#x1/0",
            "#b1/0", "#o1/0", "#d1/0");
        reads("0/1", "exact 0");
        reads("1/01", "exact 1");
        reads("1/" + Check.repeat("0", 397) + "2", "exact 1/2");
        reads("#i0/1", 0.0);
    }

    private static void point() {
        PROMISE.says("digits, with one point somewhere or none");
        reads("125", "exact 125");
        reads(".125", 0.125);
        reads("1.25", 1.25);
        reads("12.5", 12.5);
        reads("125.", 125);
        reads("#e.125", "exact 1/8");
        reads("#e125.", "exact 125");
        tellNone("..125", "1..25", "1.2.5", "125..", ".125.", ".1.25", "1,25", "1. 5");
    }

    private static void atLeastOneDigit() {
        PROMISE.says("at least one digit");
        tellNone(".", "+.", "-.", "#d.", "#e.", "#i-.", ".e1", "e1", "E1", "+e1", "-.e1", "#e.e1", "e", ".e", "#de1");
        reads(".0", 0.0);
        reads("0.", 0.0);
        reads(".0e1", 0.0);
        reads("0.e1", 0.0);
    }

    private static void exponent() {
        PROMISE.says("and then e, a sign or none, and .. digits, or nothing");
        reads("25e1", 250);
        reads("25e+1", 250);
        reads("25e-1", 2.5);
        reads("2.5e1", 25);
        reads("25.e-2", 0.25);
        reads(".25e+2", 25);
        reads("1.5e0", 1.5);
        reads("1.5e-0", 1.5);
        tellNone("1e++1", "1e--1", "1e+-1", "1ee1", "1e1e1", "1e1.", "1e.1", "1e1/2", "1e 1", "1e1+", "1e1a", "1e#1",
            "1d1", "1f1", "1e1.5", "1^1");
    }

    private static void exponentDigits() {
        PROMISE.says("one to four digits");
        tellNone("1e", "1.e", "1e+", "1e-", "#e1e", "1E", "1e12345", "1e00001", "1e-00001", "1e+00000", "0e00000",
            "#e1e00000", "1e" + Check.repeat("0", 398));
        reads("1e5", 1e5);
        reads("1e05", 1e5);
        reads("1e005", 1e5);
        reads("1e0005", 1e5);
        reads("1e-0005", 1e-5);
        reads("1e+0300", 1e300);
        reads("1e12", 1e12);
        reads("1e123", 1e123);
        reads("1e9999", Double.POSITIVE_INFINITY);
        reads("-1e-9999", -0.0);
        reads("0e9999", 0.0);
    }

    private static void onlyInBaseTen() {
        PROMISE.says("in base 10: digits, with one point .., and then e");
        reads("#d1.5", 1.5);
        reads("#d1e1", 10);
        reads("#x1e1", "exact 481");
        tellNone("#x1.5", "#b1.1", "#o1.1", "#x1.", "#b1.", "#o1.", "#x.1", "#b.1", "#o.1", "#b1e1", "#o1e1", "#x1e+1",
            "#x1e-1", "#x1p1", "#x#i1.5", "#b#e1e1");
    }

    private static void makesADouble() {
        PROMISE.says("a point or an e makes it a double .. if there is no #e");
        reads("1", "exact 1");
        reads("1.", 1);
        reads("1.0", 1);
        reads("1e0", 1);
        reads("1E0", 1);
        reads("#d1.", 1);
        reads("#i1.", 1);
        reads("#e1.", "exact 1");
        reads("#e1e0", "exact 1");
        reads("#e#d.5", "exact 1/2");
        reads("#d#e5e-1", "exact 1/2");
    }

    private static void words() {
        PROMISE.says("or, with a sign, inf.0 or nan.0");
        for (String prefix : new String[] {"", "#d", "#x", "#b", "#o", "#i", "#i#x", "#b#i"}) {
            reads(prefix + "+inf.0", Double.POSITIVE_INFINITY);
            reads(prefix + "-inf.0", Double.NEGATIVE_INFINITY);
            reads(prefix + "+nan.0", Double.NaN);
            reads(prefix + "-nan.0", Double.NaN);
            tellNone(prefix + "inf.0", prefix + "nan.0");
        }
        tellNone("+", "+i", "+in", "+inf", "+inf.", "+inf.1", "+inf.00", "+inf0", "+inf.0.", "+inf.0e1", "-inf.0-",
            "++inf.0", "+1inf.0", "+0inf.0", "+n", "+na", "+nan", "+nan.", "+nan.1", "+nan.00", "+nan.0 ", " +nan.0",
            "+inf.nan.0", "+inf.0+inf.0", "+nan.0/1", "+infinity", "+jnf.0", "+ina.0", "+naf.0");
    }

    private static void wordsNotExact() {
        PROMISE.says("(not with #e)");
        for (String prefix : new String[] {"#e", "#e#d", "#d#e", "#e#x", "#b#e"}) {
            tellNone(prefix + "+inf.0", prefix + "-inf.0", prefix + "+nan.0", prefix + "-nan.0");
        }
    }

    private static void greatOrSmall() {
        PROMISE.says("Letters of digits and e may be great or small");
        reads("#xabcdef", "exact 11259375");
        reads("#xABCDEF", "exact 11259375");
        reads("#xaBcDeF/AbCdEf", "exact 1");
        reads("1e2", 100);
        reads("1E2", 100);
        reads("#e1E-2", "exact 1/100");
        reads("#x1E2", "exact 482");
    }

    private static void smallOnly() {
        PROMISE.says("inf.0 and prefixes small only");
        tellNone("+Inf.0", "+iNf.0", "+inF.0", "+INF.0", "-INF.0", "+Nan.0", "+nAn.0", "+naN.0", "+NaN.0", "-NAN.0");
        tellNone("#X1", "#B1", "#O1", "#D1", "#E1", "#I1", "#x#E1", "#e#X1", "#X#e1", "#E#x1");
    }

    private static void nothingBesides() {
        PROMISE.says("THE TEXT OF A NUMBER: nothing before it and nothing behind");
        for (char c = 0; c < 128; c++) {
            if ("0123456789+-.".indexOf(c) < 0) {
                tellNone(c + "12");
            }
            if ("0123456789.".indexOf(c) < 0) {
                tellNone("12" + c);
            }
            if ("0123456789e".indexOf(Character.toLowerCase(c)) < 0) {
                tellNone("1.5" + c);
            }
            if ("0123456789".indexOf(c) < 0) {
                tellNone("1/5" + c, "1e5" + c);
            }
            tellNone("+inf.0" + c);
        }
    }
}
