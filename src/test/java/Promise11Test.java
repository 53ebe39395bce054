/** Promise 11, units. */
public final class Promise11Test {
    private static final Promise PROMISE = new Promise(11);
    private static final long TOP = 1L << 52;

    public static void main(String[] args) {
        PROMISE.says("Of a finite double: the units from 2^52 to 2^53 - 1");
        units("1.", TOP);
        units("-1.", TOP);
        units("0.5", TOP);
        units("1.9999999999999998", 2 * TOP - 1);
        units("9007199254740991.", 2 * TOP - 1);
        units("9007199254740992.", TOP);
        units("1.7976931348623157e308", 2 * TOP - 1);
        units("2.2250738585072014e-308", TOP);
        PROMISE.says("or less with the place -1074");
        units("0.", 0);
        units("-0.", 0);
        units("1e-9999", 0);
        units("5e-324", 1);
        units("-5e-324", 1);
        units("1e-323", 2);
        units("2.225073858507201e-308", TOP - 1);
        units("1.1125369292536007e-308", TOP / 2);
        PROMISE.says("-1 if it is none");
        for (String text : new String[] {"", "1/0", "0", "1", "-22/7", "+inf.0", "-inf.0", "1e309", "+nan.0"}) {
            units(text, -1);
        }
        everyPowerOfTwo();
        changesNothing();
        PROMISE.end();
    }

    private static void units(String text, long units) {
        DoubleTexts x = Check.typed(text);
        x.make(false, 5, 0);
        x.read();
        PROMISE.same("units of " + text, x.units(), units);
    }

    private static void everyPowerOfTwo() {
        PROMISE.says("A FINITE double is units * 2^place: of every power of two");
        DoubleTexts x = new DoubleTexts();
        for (int power = -1074; power <= 1023; power++) {
            if (power % 200 == 0) {
                x = new DoubleTexts();
            }
            x.make(false, 1, power);
            PROMISE.same("2^" + power, x.units(), power >= -1022 ? TOP : 1L << (power + 1074));
        }
    }

    private static void changesNothing() {
        PROMISE.says("units: nothing changes");
        for (String sort : Look.SORTS) {
            DoubleTexts x = Look.ready(sort);
            x.units();
            PROMISE.asReady("after " + sort, x, sort);
        }
    }
}
