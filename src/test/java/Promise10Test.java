/** Promise 10, negative. */
public final class Promise10Test {
    private static final Promise PROMISE = new Promise(10);

    public static void main(String[] args) {
        PROMISE.says("Whether its sign is -: of an exact one below 0");
        signs(true, "-1", "-7", "-1/2", "#e-.5", "#e-1e1233", "#e-1e-1233");
        signs(false, "0", "-0", "+0", "-0/5", "#e-0.0", "#e-0e9999", "1", "1/2", "#e1e-1233");
        PROMISE.says("of a double .. with the sign 1");
        signs(true, "-1.5", "-5e-324", "-1.7976931348623157e308", "-inf.0", "-1e9999", "#i-1/3");
        signs(false, "1.5", "+5e-324", "+inf.0", "1e9999", "#i1/3");
        PROMISE.says("(-0.0 too)");
        signs(true, "-0.0", "-.0", "-0e0", "#i-0", "#i-0/5", "-1e-9999");
        signs(false, "0.0", "+0.0", "#i0", "1e-9999");
        PROMISE.says("of a double that is no NaN");
        signs(false, "+nan.0", "-nan.0", "#i-nan.0");
        PROMISE.says("Whether its sign is -: not if there is none");
        signs(false, "", "-", "-x", "-1/0", "#e-1e1234", "#e-1e-1234", "#e-inf.0");
        afterOtherCalls();
        changesNothing();
        PROMISE.end();
    }

    private static void signs(boolean negative, String... texts) {
        for (String text : texts) {
            DoubleTexts x = Check.typed(text);
            x.make(!negative, 1, 0);
            x.read();
            PROMISE.same("negative of " + text, x.negative(), negative);
        }
    }

    private static void afterOtherCalls() {
        PROMISE.says("Whether its sign is -: after other calls than read");
        DoubleTexts x = new DoubleTexts();
        PROMISE.same("at first", x.negative(), false);
        x.make(true, 0, 0);
        PROMISE.same("made -0.0", x.negative(), true);
        x.exact();
        PROMISE.same("then exact", x.negative(), false);
        x.inexact();
        PROMISE.same("then inexact", x.negative(), false);
        x.divide(Long.MIN_VALUE, 1);
        PROMISE.same("the least long", x.negative(), true);
        x.exact();
        PROMISE.same("that exact", x.negative(), true);
        x.inexact();
        PROMISE.same("that inexact", x.negative(), true);
        x.divide(0, 1);
        PROMISE.same("0", x.negative(), false);
        x.make(true, 1, 2000);
        PROMISE.same("made infinite", x.negative(), true);
    }

    private static void changesNothing() {
        PROMISE.says("negative: nothing changes");
        for (String sort : Look.SORTS) {
            DoubleTexts x = Look.ready(sort);
            x.negative();
            PROMISE.asReady("after " + sort, x, sort);
        }
    }
}
