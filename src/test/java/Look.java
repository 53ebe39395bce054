/** What calls tell of an object, each as one text, and the objects that tests begin from. */
final class Look {
    /** The texts of one number or more of every sort; the first tells none. */
    static final String[] SORTS = {
        "", "0", "-7", "22/7", "1.5", "0.0", "-0.0", "5e-324", "-1.7976931348623157e308", "+inf.0", "-inf.0", "+nan.0",
    };

    private Look() {
    }

    /** An object with the number that the text tells, the output 42 and the text 12. */
    static DoubleTexts ready(String number) {
        DoubleTexts x = Check.typed("42");
        x.read();
        x.write(10);
        x.clear();
        Check.type(x, number);
        x.read();
        x.clear();
        Check.type(x, "12");
        return x;
    }

    /** A new object that has read the text. */
    static DoubleTexts read(String text) {
        DoubleTexts x = Check.typed(text);
        x.read();
        return x;
    }

    /** The number; an exact one is written for it. */
    static String number(DoubleTexts x) {
        String sign = x.negative() ? "-" : "+";
        switch (x.kind()) {
            case 0:
                return "none";
            case 1:
                return "exact " + Check.written(x, 10);
            case 2:
                return sign + x.units() + " * 2^" + x.place();
            case 3:
                return sign + "infinite";
            case 4:
                return "NaN";
            default:
                return "no kind";
        }
    }

    /** The same of one of Java's own doubles. */
    static String number(double value) {
        String sign = Double.doubleToRawLongBits(value) < 0 ? "-" : "+";
        if (Double.isNaN(value) || Double.isInfinite(value)) {
            return Double.isNaN(value) ? "NaN" : sign + "infinite";
        }
        return sign + units(value) + " * 2^" + place(value);
    }

    /** A new object with one of Java's own doubles, a finite one. */
    static DoubleTexts made(double value) {
        DoubleTexts x = new DoubleTexts();
        x.make(Double.doubleToRawLongBits(value) < 0, units(value), place(value));
        return x;
    }

    private static long units(double value) {
        long bits = Double.doubleToRawLongBits(Math.abs(value));
        return bits < 1L << 52 ? bits : bits & (1L << 52) - 1 | 1L << 52;
    }

    private static int place(double value) {
        return (int) Math.max(Double.doubleToRawLongBits(Math.abs(value)) >>> 52, 1) - 1075;
    }

    static String output(DoubleTexts x) {
        StringBuilder text = new StringBuilder();
        for (int i = 0; x.out(i) >= 0 && i < 10_000; i++) {
            text.append((char) x.out(i));
        }
        return text.toString();
    }

    /** The output, the number, and what the text tells with a digit more; uses the object up. */
    static String all(DoubleTexts x) {
        return "output " + output(x) + ", " + numberAndText(x);
    }

    /** All but the output; uses the object up. */
    static String numberAndText(DoubleTexts x) {
        String facts = x.kind() + " " + x.negative() + " " + x.units() + " " + x.place() + " " + x.bits(false) + " "
            + x.bits(true);
        return "number " + number(x) + " (" + facts + "), " + text(x);
    }

    /** What the text tells with a digit more, and its length then; uses the object up. */
    static String text(DoubleTexts x) {
        int length = x.type('3');
        int answer = x.read();
        return "text of " + length + ": " + answer + " " + number(x);
    }
}
