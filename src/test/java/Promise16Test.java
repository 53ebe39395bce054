/** Promise 16, back. */
public final class Promise16Test {
    private static final Promise PROMISE = new Promise(16);

    public static void main(String[] args) {
        becomesTheOutput();
        emptyOutput();
        fourHundred();
        fourHundredAndOne();
        farMore();
        allElseStays();
        everyDoubleComesBack();
        PROMISE.end();
    }

    private static void becomesTheOutput() {
        PROMISE.says("The text becomes the output: true");
        for (String sort : Look.SORTS) {
            if (!sort.isEmpty()) {
                DoubleTexts x = Look.ready(sort);
                int length = x.write(10);
                PROMISE.same("back of " + sort, x.back(), true);
                x.make(false, 1, 0);
                PROMISE.same("read of " + sort, x.read(), Look.ready(sort).kind() == 1 ? 1 : 2);
                PROMISE.same("the same as " + sort, Look.number(x), Look.number(Look.ready(sort)));
                PROMISE.same("length of " + sort, x.type('0'), length + 1);
            }
        }
        DoubleTexts x = Look.ready("#xff");
        x.write(16);
        x.back();
        PROMISE.same("the digits alone come back: ff", x.read(), 0);
    }

    private static void emptyOutput() {
        PROMISE.says("The text becomes the output: an empty one too");
        DoubleTexts x = Check.typed("12");
        x.read();
        PROMISE.same("back", x.back(), true);
        PROMISE.same("the text", Look.text(x), "text of 1: 1 exact 3");
        PROMISE.same("back of a new object", new DoubleTexts().back(), true);
    }

    private static void fourHundred() {
        PROMISE.says("if that has at most 400 characters: true");
        for (String text : new String[] {"#e1e399", "#e-1e398", "#e1e-397", "#e-1e-396", "#e9e399"}) {
            DoubleTexts x = Look.read(text);
            String number = Look.number(x);
            PROMISE.same("length of " + text, x.write(10), 400);
            PROMISE.same("back of " + text, x.back(), true);
            PROMISE.same("full after " + text, x.type('0'), -1);
            x.make(false, 1, 0);
            PROMISE.same("read of " + text, x.read(), 1);
            PROMISE.same("the same as " + text, Look.number(x), number);
        }
        DoubleTexts x = Look.read("#e1e398");
        PROMISE.same("length", x.write(10), 399);
        PROMISE.same("back of 399", x.back(), true);
        PROMISE.same("character 400", x.type('0'), 400);
    }

    private static void fourHundredAndOne() {
        PROMISE.says("else false");
        for (String text : new String[] {"#e1e400", "#e-1e399", "#e1e-398", "#e-1e-397"}) {
            DoubleTexts x = Look.ready(text);
            PROMISE.same("length of " + text, x.write(10), 401);
            PROMISE.same("back of " + text, x.back(), false);
            PROMISE.same("the text stays with " + text, Look.text(x), "text of 3: 1 exact 123");
        }
    }

    private static void farMore() {
        PROMISE.says("else false: the longest outputs, and a shorter one behind them");
        DoubleTexts x = Look.ready("#e-" + Check.repeat("9", 385) + "e-1233");
        x.write(2);
        String output = Look.output(x);
        PROMISE.same("back", x.back(), false);
        PROMISE.same("the output stays", Look.output(x), output);
        x.inexact();
        x.write(10);
        PROMISE.same("back of a shorter one", x.back(), true);
        PROMISE.same("length", x.type('1'), 5);
        PROMISE.same("read", x.read(), 2);
    }

    private static void allElseStays() {
        PROMISE.says("The text becomes the output: nothing else changes");
        for (String sort : Look.SORTS) {
            DoubleTexts x = Look.ready(sort);
            PROMISE.same("back with " + sort, x.back(), true);
            PROMISE.same("output with " + sort, Look.output(x), "42");
            PROMISE.same("number " + sort, Look.number(x), Look.number(Look.ready(sort)));
        }
        DoubleTexts x = Look.ready("-22/7");
        x.back();
        PROMISE.same("a copy: text", x.type('0'), 3);
        x.clear();
        PROMISE.same("a copy: output", Look.output(x), "42");
    }

    private static void everyDoubleComesBack() {
        PROMISE.says("The text becomes the output: and tells the double that was written");
        long[] bits = {0, 1, 2, (1L << 52) - 1, 1L << 52, (1L << 52) + 1, (2047L << 52) - 1, (2047L << 52) - 2};
        for (int i = 0; i < 400; i++) {
            long bit = i < bits.length ? bits[i] : i * 0x9E3779B97F4A7C15L >>> 1;
            double value = Double.longBitsToDouble(bit);
            if (!Double.isNaN(value) && !Double.isInfinite(value)) {
                DoubleTexts x = Look.made(i % 2 == 1 ? -value : value);
                String number = Look.number(x);
                x.write(10);
                x.back();
                x.divide(1, 3);
                PROMISE.same("read " + value, x.read(), 2);
                PROMISE.same("" + value, Look.number(x), number);
            }
        }
    }
}
