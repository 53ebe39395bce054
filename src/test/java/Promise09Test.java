/** Promise 9, kind. */
public final class Promise09Test {
    private static final Promise PROMISE = new Promise(9);

    public static void main(String[] args) {
        PROMISE.says("0 none");
        kinds(0, "", "x", "1/0", "#e1e1234", "#e1e-1234");
        PROMISE.says("1 exact");
        kinds(1, "0", "-0", "7", "-22/7", "#e.5", "#e1e1233", "#e1e-1233", "#e0e9999");
        PROMISE.says("2 a finite double");
        kinds(2, "0.", "-0.0", "1.5", "5e-324", "1e-9999", "-1e-9999", "1.7976931348623157e308",
            "1.7976931348623158e308", "#i7", "#i-22/7");
        PROMISE.says("3 infinite");
        kinds(3, "+inf.0", "-inf.0", "1.7976931348623159e308", "-1e309", "1e9999", "#i1" + Check.repeat("0", 309));
        PROMISE.says("4 a NaN");
        kinds(4, "+nan.0", "-nan.0", "#i+nan.0");
        afterOtherCalls();
        changesNothing();
        PROMISE.end();
    }

    private static void kinds(int kind, String... texts) {
        for (String text : texts) {
            PROMISE.same("kind of " + text, Look.read(text).kind(), kind);
        }
    }

    private static void afterOtherCalls() {
        PROMISE.says("0 none, 1 exact, 2 a finite double, 3 infinite: after other calls than read");
        DoubleTexts x = new DoubleTexts();
        PROMISE.same("at first", x.kind(), 0);
        x.make(false, (1L << 53) - 1, 971);
        PROMISE.same("the greatest double", x.kind(), 2);
        x.make(false, 1L << 53, 971);
        PROMISE.same("2^1024", x.kind(), 3);
        x.divide(1, 3);
        PROMISE.same("1/3", x.kind(), 2);
        x.exact();
        PROMISE.same("made exact", x.kind(), 1);
        x.inexact();
        PROMISE.same("made inexact", x.kind(), 2);
    }

    private static void changesNothing() {
        PROMISE.says("kind: nothing changes");
        for (String sort : Look.SORTS) {
            DoubleTexts x = Look.ready(sort);
            x.kind();
            PROMISE.asReady("after " + sort, x, sort);
        }
    }
}
