/** Promise 15, out. */
public final class Promise15Test {
    private static final Promise PROMISE = new Promise(15);
    private static final int[] FAR = {
        Integer.MIN_VALUE, Integer.MIN_VALUE + 1, -65_536, -400, -256, -2, -1, 400, 8226, 65_536, Integer.MAX_VALUE - 1,
        Integer.MAX_VALUE,
    };

    public static void main(String[] args) {
        codes();
        noneThere();
        emptyOutput();
        longOutput();
        otherCallsLeaveIt();
        changesNothing();
        PROMISE.end();
    }

    private static void codes() {
        PROMISE.says("The code of character i of the output");
        String[][] cases = {
            {"#x-FEDCBA9876543210", "16", "-fedcba9876543210"}, {"#x1/f", "16", "1/f"}, {"-0.125", "10", "-0.125"},
            {"1e300", "10", "1e300"}, {"+inf.0", "10", "+inf.0"}, {"-nan.0", "10", "+nan.0"}, {"7", "10", "7"},
        };
        for (String[] one : cases) {
            DoubleTexts x = Look.read(one[0]);
            x.write(Integer.parseInt(one[1]));
            for (int i = 0; i < one[2].length(); i++) {
                PROMISE.same("out(" + i + ") of " + one[0], x.out(i), one[2].charAt(i));
            }
        }
    }

    private static void noneThere() {
        PROMISE.says("-1 if there is none");
        DoubleTexts x = Look.ready("");
        PROMISE.same("the last", x.out(1), '2');
        PROMISE.same("behind the last", x.out(2), -1);
        for (int i : FAR) {
            PROMISE.same("out(" + i + ")", x.out(i), -1);
        }
    }

    private static void emptyOutput() {
        PROMISE.says("-1 if there is none: the output is empty");
        DoubleTexts x = Check.typed("12");
        x.read();
        PROMISE.same("out(0)", x.out(0), -1);
        PROMISE.same("out(1)", x.out(1), -1);
        for (int i : FAR) {
            PROMISE.same("out(" + i + ")", x.out(i), -1);
        }
    }

    private static void longOutput() {
        PROMISE.says("The code of character i .. -1 if there is none: beyond 400 characters");
        DoubleTexts x = Look.read("#e1e1233");
        x.write(2);
        PROMISE.same("the first", x.out(0), '1');
        PROMISE.same("character 399", x.out(399) == '0' || x.out(399) == '1', true);
        PROMISE.same("character 400", x.out(400) == '0' || x.out(400) == '1', true);
        PROMISE.same("the last", x.out(4095), '0');
        PROMISE.same("behind the last", x.out(4096), -1);
        x.write(10);
        PROMISE.same("the last in base 10", x.out(1233), '0');
        PROMISE.same("behind it", x.out(1234), -1);
        PROMISE.same("nothing of the longer one", x.out(4095), -1);
        x.inexact();
        x.write(10);
        PROMISE.same("the last of +inf.0", x.out(5), '0');
        PROMISE.same("behind it", x.out(6), -1);
    }

    private static void otherCallsLeaveIt() {
        PROMISE.says("The code of character i of the output: only write changes it");
        for (String sort : Look.SORTS) {
            DoubleTexts x = Look.ready(sort);
            x.type('9');
            x.read();
            x.clear();
            x.inexact();
            x.exact();
            x.make(true, 3, 0);
            x.divide(1, 3);
            x.write(3);
            x.back();
            x.bits(true);
            PROMISE.same("after " + sort, Look.output(x), "42");
        }
    }

    private static void changesNothing() {
        PROMISE.says("out: nothing changes");
        for (String sort : Look.SORTS) {
            DoubleTexts x = Look.ready(sort);
            x.out(0);
            x.out(-1);
            x.out(Integer.MAX_VALUE);
            PROMISE.asReady("after " + sort, x, sort);
        }
    }
}
