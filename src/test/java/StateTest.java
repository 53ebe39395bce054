/** Promises 1, 2, 3, 15 and 16: a new object, type, clear, out, back. */
public final class StateTest {
    private static final Check CHECK = new Check();

    public static void main(String[] args) {
        newObject();
        type();
        typeAtTheLimit();
        clear();
        out();
        back();
        backAtTheLimit();
        readerLeavesTheTextAlone();
        CHECK.end();
    }

    private static void newObject() {
        DoubleTexts x = new DoubleTexts();
        CHECK.same("new: kind", x.kind(), 0);
        CHECK.same("new: negative", x.negative(), false);
        CHECK.same("new: units", x.units(), -1);
        CHECK.same("new: place", x.place(), 0);
        CHECK.same("new: bits", x.bits(false), -1);
        CHECK.same("new: bits of the denominator", x.bits(true), -1);
        CHECK.same("new: write", x.write(10), -1);
        CHECK.same("new: out", x.out(0), -1);
        CHECK.same("new: exact", x.exact(), false);
        CHECK.same("new: inexact", x.inexact(), false);
        CHECK.same("new: read", x.read(), 0);
        CHECK.same("new: back", x.back(), true);
        CHECK.same("new: the text is empty", x.type('7'), 1);
    }

    private static void type() {
        DoubleTexts x = new DoubleTexts();
        CHECK.same("type 0", x.type(0), 1);
        CHECK.same("type 127", x.type(127), 2);
        CHECK.same("type -1", x.type(-1), -1);
        CHECK.same("type 128", x.type(128), -1);
        CHECK.same("type 304, a 0 in its low byte", x.type(304), -1);
        CHECK.same("type the least", x.type(Integer.MIN_VALUE), -1);
        CHECK.same("type the greatest", x.type(Integer.MAX_VALUE), -1);
        CHECK.same("type after refusals", x.type(48), 3);
        x.clear();
        Check.type(x, "4");
        x.type(128);
        x.type(2);
        CHECK.same("a control character is in the text", x.read(), 0);
        x.clear();
        Check.type(x, "4");
        x.type(200);
        Check.type(x, "2");
        CHECK.same("a refused code is not", x.read(), 1);
        CHECK.same("42", Check.written(x, 10), "42");
    }

    private static void typeAtTheLimit() {
        DoubleTexts x = new DoubleTexts();
        for (int i = 1; i <= 400; i++) {
            CHECK.same("type, length " + i, x.type('0' + i % 10), i);
        }
        CHECK.same("type over 400", x.type('1'), -1);
        CHECK.same("read 400", x.read(), 1);
        CHECK.same("write 400 digits", x.write(10), 400);
        CHECK.same("the first of them", x.out(0), '1');
        CHECK.same("the last of them", x.out(399), '0');
        CHECK.same("back of 400", x.back(), true);
        CHECK.same("type over 400 after back", x.type('1'), -1);
    }

    private static void clear() {
        DoubleTexts x = Check.typed("-1.5");
        x.read();
        x.write(10);
        x.clear();
        CHECK.same("clear: kind stays", x.kind(), 2);
        CHECK.same("clear: negative stays", x.negative(), true);
        CHECK.same("clear: output stays", Check.output(x, 4), "-1.5");
        CHECK.same("clear: text is empty", x.type('1'), 1);
        x.clear();
        x.clear();
        CHECK.same("clear: empty text", x.read(), 0);
        CHECK.same("clear: output stays after read", x.out(0), '-');
    }

    private static void out() {
        DoubleTexts x = Check.typed("#xff/10");
        x.read();
        x.write(16);
        CHECK.same("out -1", x.out(-1), -1);
        CHECK.same("out 0", x.out(0), 'f');
        CHECK.same("out 2", x.out(2), '/');
        CHECK.same("out 4", x.out(4), '0');
        CHECK.same("out 5", x.out(5), -1);
        CHECK.same("out least", x.out(Integer.MIN_VALUE), -1);
        CHECK.same("out greatest", x.out(Integer.MAX_VALUE), -1);
        x.divide(1, 2);
        CHECK.same("out before the next write", x.out(0), 'f');
        CHECK.same("a refused write", x.write(16), -1);
        CHECK.same("out after a refused write", x.out(4), '0');
        x.write(10);
        CHECK.same("a shorter output", x.out(2), '5');
        CHECK.same("nothing is left of the longer one", x.out(3), -1);
    }

    private static void back() {
        DoubleTexts x = Check.typed("#x-Ff/10");
        x.read();
        x.write(10);
        CHECK.same("back", x.back(), true);
        CHECK.same("back: length", x.type('0'), 8);
        CHECK.same("back: read", x.read(), 1);
        CHECK.same("back: number", Check.written(x, 10), "-51/32");
        CHECK.same("back keeps the output", x.out(0), '-');
        CHECK.same("back twice", x.back() && x.back(), true);
        CHECK.same("back twice: length", x.type('0'), 7);
        DoubleTexts y = Check.typed("12");
        CHECK.same("back of an empty output", y.back(), true);
        CHECK.same("the text is empty then", y.type('1'), 1);
    }

    private static void backAtTheLimit() {
        DoubleTexts x = Check.typed("#e1e399");
        x.read();
        CHECK.same("400 characters", x.write(10), 400);
        CHECK.same("back of 400", x.back(), true);
        CHECK.same("read of 400", x.read(), 1);
        CHECK.same("the same", x.write(10), 400);
        x = Check.typed("#e1e400");
        x.read();
        CHECK.same("401 characters", x.write(10), 401);
        CHECK.same("back of 401", x.back(), false);
        CHECK.same("the text stays", x.type('1'), 8);
        CHECK.same("and is read", x.read(), 0);
    }

    private static void readerLeavesTheTextAlone() {
        DoubleTexts x = Check.typed("1/3");
        x.read();
        x.read();
        CHECK.same("read twice", Check.written(x, 10), "1/3");
        CHECK.same("the text stays", x.type('0'), 4);
        x.read();
        CHECK.same("and grows", Check.written(x, 10), "1/30");
    }
}
