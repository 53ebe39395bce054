/** Promise 12, place. */
public final class Promise12Test {
    private static final Promise PROMISE = new Promise(12);

    public static void main(String[] args) {
        PROMISE.says("Of a finite double");
        place("1.", -52);
        place("-1.", -52);
        place("0.1", -56);
        place("1.9999999999999998", -52);
        place("2.", -51);
        place("4503599627370495.5", -1);
        place("4503599627370496.", 0);
        place("9007199254740991.", 0);
        place("9007199254740992.", 1);
        place("1.7976931348623157e308", 971);
        place("8.98846567431158e307", 971);
        PROMISE.says("or less with the place -1074");
        place("0.", -1074);
        place("-0.", -1074);
        place("5e-324", -1074);
        place("1e-9999", -1074);
        place("2.225073858507201e-308", -1074);
        place("2.2250738585072014e-308", -1074);
        place("4.4501477170144023e-308", -1074);
        place("4.450147717014403e-308", -1073);
        PROMISE.says("0 if it is none");
        for (String text : new String[] {"", "1/0", "0", "1", "-22/7", "+inf.0", "-inf.0", "1e309", "+nan.0"}) {
            place(text, 0);
        }
        everyPowerOfTwo();
        changesNothing();
        PROMISE.end();
    }

    private static void place(String text, int place) {
        DoubleTexts x = Check.typed(text);
        x.make(false, 5, 0);
        x.read();
        PROMISE.same("place of " + text, x.place(), place);
    }

    private static void everyPowerOfTwo() {
        PROMISE.says("A FINITE double is units * 2^place: of every power of two");
        DoubleTexts x = new DoubleTexts();
        for (int power = -1074; power <= 1023; power++) {
            if (power % 200 == 0) {
                x = new DoubleTexts();
            }
            x.make(false, 1, power);
            PROMISE.same("2^" + power, x.place(), Math.max(power - 52, -1074));
        }
    }

    private static void changesNothing() {
        PROMISE.says("place: nothing changes");
        for (String sort : Look.SORTS) {
            DoubleTexts x = Look.ready(sort);
            x.place();
            PROMISE.asReady("after " + sort, x, sort);
        }
    }
}
