/** Promise 2, type. */
public final class Promise02Test {
    private static final Promise PROMISE = new Promise(2);
    private static final int[] REFUSED = {
        -1, -2, -128, -208, 128, 129, 176, 255, 256, 304, 65_584, Integer.MIN_VALUE, Integer.MIN_VALUE + 48,
        Integer.MAX_VALUE,
    };

    public static void main(String[] args) {
        everyCode();
        length();
        notACode();
        full();
        fullByBack();
        allElseStays();
        PROMISE.end();
    }

    private static void everyCode() {
        PROMISE.says("Appends a character");
        for (int code = 0; code <= 127; code++) {
            DoubleTexts x = Check.typed("1");
            PROMISE.same("code " + code, x.type(code), 2);
            boolean digit = code >= '0' && code <= '9';
            PROMISE.same("1 and code " + code, x.read(), digit ? 1 : code == '.' ? 2 : 0);
            if (digit) {
                PROMISE.same("1 and " + code, Look.number(x), "exact 1" + (char) code);
            }
        }
    }

    private static void length() {
        PROMISE.says("the length of the text");
        DoubleTexts x = new DoubleTexts();
        for (int i = 1; i <= 400; i++) {
            PROMISE.same("character " + i, x.type(i % 128), i);
        }
    }

    private static void notACode() {
        PROMISE.says("-1, and none is, if the code is not 0 .. 127");
        for (int code : REFUSED) {
            DoubleTexts x = Look.ready("22/7");
            PROMISE.same("code " + code, x.type(code), -1);
            PROMISE.asReady("after code " + code, x, "22/7");
            PROMISE.same("code " + code + " at first", new DoubleTexts().type(code), -1);
        }
    }

    private static void full() {
        PROMISE.says("-1, and none is, if .. there are 400");
        DoubleTexts x = Check.typed(Check.repeat("0", 398));
        PROMISE.same("character 399", x.type('0'), 399);
        PROMISE.same("character 400", x.type('5'), 400);
        PROMISE.same("character 401", x.type('7'), -1);
        PROMISE.same("character 401 again", x.type(0), -1);
        PROMISE.same("no code, and full", x.type(128), -1);
        PROMISE.same("read", x.read(), 1);
        PROMISE.same("what is read", Look.number(x), "exact 5");
        x.clear();
        PROMISE.same("no longer full", x.type('7'), 1);
    }

    private static void fullByBack() {
        PROMISE.says("-1, and none is, if .. there are 400: from the output too");
        DoubleTexts x = Look.read("#e1e398");
        x.write(10);
        x.back();
        PROMISE.same("399 characters and one", x.type('0'), 400);
        PROMISE.same("400 characters and one", x.type('0'), -1);
        x.read();
        PROMISE.same("read", x.write(10), 400);
        x.back();
        PROMISE.same("400 characters come back", x.type('0'), -1);
    }

    private static void allElseStays() {
        PROMISE.says("Appends a character: nothing else");
        for (String sort : Look.SORTS) {
            DoubleTexts x = Look.ready(sort);
            PROMISE.same("to " + sort, x.type('9'), 3);
            String output = Look.output(x);
            PROMISE.same("output with " + sort, output, "42");
            PROMISE.same("number " + sort, Look.number(x), Look.number(Look.ready(sort)));
        }
    }
}
