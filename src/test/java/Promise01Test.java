/** Promise 1, a new object, and what the document says of all objects. */
public final class Promise01Test {
    private static final Promise PROMISE = new Promise(1);

    public static void main(String[] args) {
        noNumber();
        emptyText();
        emptyOutput();
        objectsStandAlone();
        calls512();
        PROMISE.end();
    }

    private static void noNumber() {
        PROMISE.says("No number");
        DoubleTexts x = new DoubleTexts();
        PROMISE.same("kind", x.kind(), 0);
        PROMISE.same("negative", x.negative(), false);
        PROMISE.same("units", x.units(), -1);
        PROMISE.same("place", x.place(), 0);
        PROMISE.same("bits(false)", x.bits(false), -1);
        PROMISE.same("bits(true)", x.bits(true), -1);
        PROMISE.same("exact", x.exact(), false);
        PROMISE.same("inexact", x.inexact(), false);
        for (int base = -1; base <= 37; base++) {
            PROMISE.same("write(" + base + ")", x.write(base), -1);
        }
        PROMISE.same("kind after all of these", x.kind(), 0);
    }

    private static void emptyText() {
        PROMISE.says("text .. empty");
        PROMISE.same("read", new DoubleTexts().read(), 0);
        PROMISE.same("the first character", new DoubleTexts().type('1'), 1);
        PROMISE.same("what one digit tells", Look.text(new DoubleTexts()), "text of 1: 1 exact 3");
    }

    private static void emptyOutput() {
        PROMISE.says("output empty");
        DoubleTexts x = new DoubleTexts();
        PROMISE.same("out(-1)", x.out(-1), -1);
        PROMISE.same("out(0)", x.out(0), -1);
        PROMISE.same("out(1)", x.out(1), -1);
        PROMISE.same("back", x.back(), true);
        PROMISE.same("the text after back", Look.text(x), "text of 1: 1 exact 3");
    }

    private static void objectsStandAlone() {
        PROMISE.says("No number, text and output empty: whatever other objects hold");
        DoubleTexts other = Look.ready("-22/7");
        DoubleTexts x = new DoubleTexts();
        PROMISE.same("the new one", Look.all(x), "output , number none (0 false -1 0 -1 -1), text of 1: 1 exact 3");
        PROMISE.asReady("the other", other, "-22/7");
    }

    private static void calls512() {
        PROMISE.says("An object is used for at most 512 calls after it has been made");
        DoubleTexts x = Check.typed("#e-" + Check.repeat("7", 387) + "e-1233");
        PROMISE.same("call 397", x.read(), 1);
        for (int call = 398; call < 510; call++) {
            x.write(2 + call % 15);
        }
        PROMISE.same("call 510", x.inexact(), true);
        PROMISE.same("call 511", x.write(10), 4);
        PROMISE.same("call 512", x.out(3), '0');
        DoubleTexts y = new DoubleTexts();
        for (int call = 1; call <= 511; call++) {
            y.divide(call, 512);
        }
        PROMISE.same("call 512 after divisions", y.units(), 511L << 44);
    }
}
