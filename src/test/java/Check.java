/** Counts the answers of one test class that are not as due, and tells each. */
final class Check {
    private int wrong = 0;
    private int all = 0;

    void same(String what, long got, long due) {
        all++;
        if (got != due) {
            wrong++;
            System.out.println(what + ": answered " + got + ", due is " + due);
        }
    }

    void same(String what, boolean got, boolean due) {
        all++;
        if (got != due) {
            wrong++;
            System.out.println(what + ": answered " + got + ", due is " + due);
        }
    }

    void same(String what, String got, String due) {
        all++;
        if (!due.equals(got)) {
            wrong++;
            System.out.println(what + ": answered \"" + got + "\", due is \"" + due + "\"");
        }
    }

    boolean failed() {
        return wrong > 0;
    }

    void end() {
        System.out.println(wrong == 0 ? all + " answers as due" : wrong + " of " + all + " answers not as due");
        if (wrong != 0) {
            System.exit(1);
        }
    }

    /** A new object whose text is this one. */
    static DoubleTexts typed(String text) {
        DoubleTexts x = new DoubleTexts();
        type(x, text);
        return x;
    }

    static void type(DoubleTexts x, String text) {
        for (int i = 0; i < text.length(); i++) {
            x.type(text.charAt(i));
        }
    }

    /** What write(base) leaves in the output; "none" if it answers -1. */
    static String written(DoubleTexts x, int base) {
        int length = x.write(base);
        return length < 0 ? "none" : output(x, length);
    }

    static String output(DoubleTexts x, int length) {
        StringBuilder text = new StringBuilder();
        for (int i = 0; i < length; i++) {
            text.append((char) x.out(i));
        }
        return text.toString();
    }

    /** The text read and written again in the base: "none" if it tells no number. */
    static String again(String text, int base) {
        DoubleTexts x = typed(text);
        x.read();
        return written(x, base);
    }

    static String repeat(String part, int times) {
        return part.repeat(times);
    }
}
