/** Promise 3, clear. */
public final class Promise03Test {
    private static final Promise PROMISE = new Promise(3);

    public static void main(String[] args) {
        emptyAfterwards();
        emptyBefore();
        fullBefore();
        allElseStays();
        PROMISE.end();
    }

    private static void emptyAfterwards() {
        PROMISE.says("The text is empty");
        DoubleTexts x = Check.typed("12");
        x.clear();
        PROMISE.same("read", x.read(), 0);
        PROMISE.same("then", Look.text(x), "text of 1: 1 exact 3");
    }

    private static void emptyBefore() {
        PROMISE.says("The text is empty: as it was");
        DoubleTexts x = new DoubleTexts();
        x.clear();
        x.clear();
        PROMISE.same("then", Look.text(x), "text of 1: 1 exact 3");
    }

    private static void fullBefore() {
        PROMISE.says("The text is empty: after 400 characters");
        DoubleTexts x = Check.typed(Check.repeat("1", 400));
        x.clear();
        PROMISE.same("then", Look.text(x), "text of 1: 1 exact 3");
    }

    private static void allElseStays() {
        PROMISE.says("all else stays");
        for (String sort : Look.SORTS) {
            DoubleTexts x = Look.ready(sort);
            x.clear();
            PROMISE.same("output with " + sort, Look.output(x), "42");
            PROMISE.same("number " + sort, Look.number(x), Look.number(Look.ready(sort)));
            PROMISE.same("text with " + sort, Look.text(x), "text of 1: 1 exact 3");
        }
    }
}
