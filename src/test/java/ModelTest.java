import java.math.BigDecimal;
import java.math.BigInteger;
import java.util.Random;

/** Runs of calls, each answer compared with the model's; the same runs every time. */
public final class ModelTest {
    private static final Check CHECK = new Check();
    private static final String MIXED = "0123456789abcdefABCDEF#xbodei+-./eEinfnan.0 ";

    private final Random random;
    private DoubleTexts x;
    private Model model;
    private StringBuilder calls;

    private ModelTest(long seed) {
        random = new Random(seed);
    }

    public static void main(String[] args) {
        int runs = args.length > 0 ? Integer.parseInt(args[0]) : 150;
        int seed = args.length > 1 ? Integer.parseInt(args[1]) : 1;
        ModelTest test = new ModelTest(seed);
        for (int run = 0; run < runs && !CHECK.failed(); run++) {
            test.run();
        }
        for (int i = 0; i < 20 * runs && !CHECK.failed(); i++) {
            test.oneDouble();
        }
        CHECK.end();
    }

    private void begin() {
        x = new DoubleTexts();
        model = new Model();
        calls = new StringBuilder();
    }

    private void same(String call, long got, long due) {
        if (calls.length() < 3000) {
            calls.append(call).append(' ');
        }
        if (got != due) {
            CHECK.same(calls.toString(), got, due);
        } else {
            CHECK.same("", got, due);
        }
    }

    private void same(String call, boolean got, boolean due) {
        same(call, got ? 1 : 0, due ? 1 : 0);
    }

    private void run() {
        begin();
        for (int left = 512; left > 0 && !CHECK.failed();) {
            left -= step();
        }
    }

    private int step() {
        switch (random.nextInt(12)) {
            case 0:
            case 1:
            case 2:
                return typeAndRead(text());
            case 3:
                long units = someLong();
                int place = random.nextInt(10) == 0 ? random.nextInt(4400) - 2200 : random.nextInt(2300) - 1200;
                boolean negative = random.nextBoolean();
                same("make(" + negative + "," + units + "," + place + ")", x.make(negative, units, place),
                    model.make(negative, units, place));
                break;
            case 4:
                long n = someLong();
                long d = someLong();
                same("divide(" + n + "," + d + ")", x.divide(n, d), model.divide(n, d));
                break;
            case 5:
                same("exact", x.exact(), model.exact());
                break;
            case 6:
                same("inexact", x.inexact(), model.inexact());
                break;
            case 7:
                int code = random.nextInt(140) - 5;
                same("type(" + code + ")", x.type(code), model.type(code));
                break;
            case 8:
                same("read", x.read(), model.read());
                break;
            case 9:
                same("back", x.back(), model.back());
                break;
            case 10:
                int i = random.nextInt(40) - 2;
                same("out(" + i + ")", x.out(i), model.out(i));
                break;
            default:
                return look();
        }
        return 1 + (random.nextInt(2) == 0 ? look() : 0);
    }

    /** All that can be asked of the number and the output. */
    private int look() {
        int base = random.nextInt(3) == 0 ? random.nextInt(18) : 10;
        same("kind", x.kind(), model.kind());
        same("negative", x.negative(), model.negative());
        same("units", x.units(), model.units());
        same("place", x.place(), model.place());
        same("bits(false)", x.bits(false), model.bits(false));
        same("bits(true)", x.bits(true), model.bits(true));
        int length = x.write(base);
        same("write(" + base + ")", length, model.write(base));
        for (int i = -1; i <= length && !CHECK.failed(); i++) {
            if (length <= 30 || random.nextInt(8) == 0) {
                same("out(" + i + ")", x.out(i), model.out(i));
            }
        }
        return 7;
    }

    private int typeAndRead(String text) {
        x.clear();
        model.clear();
        calls.append("clear ");
        for (int i = 0; i < text.length(); i++) {
            same("type(" + text.charAt(i) + ")", x.type(text.charAt(i)), model.type(text.charAt(i)));
        }
        same("read", x.read(), model.read());
        return 2 + text.length() + look();
    }

    private long someLong() {
        switch (random.nextInt(6)) {
            case 0:
                return random.nextInt(20) - 3;
            case 1:
                return (1L << random.nextInt(64)) + random.nextInt(5) - 2;
            case 2:
                return random.nextLong();
            case 3:
                return (random.nextLong() >>> 11) * (random.nextInt(5) == 0 ? -1 : 1);
            default:
                return random.nextLong() >>> 1 + random.nextInt(62);
        }
    }

    private String text() {
        switch (random.nextInt(10)) {
            case 0:
                return pick(MIXED, random.nextInt(12));
            case 1:
                return spoilt(ordinary());
            case 2:
                return bitLimit();
            case 3:
                return middle();
            case 4:
                return commonFactor();
            default:
                return ordinary();
        }
    }

    private String ordinary() {
        String base = oneOf("", "", "", "", "#d", "#x", "#b", "#o");
        String exactness = oneOf("", "", "#e", "#i");
        String prefixes = random.nextBoolean() ? base + exactness : exactness + base;
        String digits = base.equals("#x") ? "0123456789abcdefABCDEF" : base.equals("#b") ? "01"
            : base.equals("#o") ? "01234567" : "0123456789";
        String sign = oneOf("", "+", "-");
        int most = random.nextInt(10) == 0 ? 190 : 22;
        String whole = pick(digits, random.nextInt(most));
        boolean decimal = digits.length() == 10;
        switch (random.nextInt(decimal ? 6 : 3)) {
            case 0:
                return prefixes + sign + whole;
            case 1:
                return prefixes + sign + whole + "/" + pick(digits, random.nextInt(most));
            case 2:
                return prefixes + sign + oneOf("inf.0", "nan.0", "0", "1");
            default:
                String point = oneOf("", ".", ".");
                String parts = point.isEmpty() ? "" : pick(digits, random.nextInt(most));
                return prefixes + sign + whole + point + parts + exponent();
        }
    }

    private String exponent() {
        int size = random.nextInt(6) == 0 ? 9999 : 345;
        String mark = oneOf("e", "e", "E") + oneOf("", "+", "-", "-");
        switch (random.nextInt(4)) {
            case 0:
                return "";
            case 1:
                return mark + random.nextInt(20);
            case 2:
                return mark + String.format("%04d", random.nextInt(400));
            default:
                return mark + random.nextInt(size + 1);
        }
    }

    /** One character more, less or other. */
    private String spoilt(String text) {
        int i = text.isEmpty() ? 0 : random.nextInt(text.length());
        String front = text.substring(0, i);
        String end = text.substring(i);
        switch (random.nextInt(3)) {
            case 0:
                return front + pick(MIXED, 1) + end;
            case 1:
                return end.isEmpty() ? front : front + end.substring(1);
            default:
                return end.isEmpty() ? front : front + pick(MIXED, 1) + end.substring(1);
        }
    }

    /** Exact numbers whose bits are near to 4096, in lowest terms or before. */
    private String bitLimit() {
        BigInteger factor = BigInteger.valueOf(random.nextInt(1000) + 1);
        BigInteger twos = BigInteger.ONE.shiftLeft(random.nextInt(300));
        BigInteger fives = BigInteger.valueOf(5).pow(random.nextInt(120));
        BigInteger digits = factor.multiply(random.nextBoolean() ? twos : fives);
        int decimals = digits.toString().length();
        int bits = digits.bitLength();
        int tens = random.nextBoolean() ? 1234 - decimals + random.nextInt(4) - 1
            : -(4096 + random.nextInt(bits + 8)) * 1000 / 3322;
        return "#e" + oneOf("", "-") + digits + "e" + tens;
    }

    /** Fractions that are not in lowest terms. */
    private String commonFactor() {
        BigInteger common = someBits(300);
        boolean hex = random.nextBoolean();
        String prefix = hex ? oneOf("#x", "#e#x", "#x#i") : oneOf("", "-");
        int base = hex ? 16 : 10;
        String upper = common.multiply(someBits(300)).toString(base);
        return prefix + upper + "/" + common.multiply(someBits(300)).toString(base);
    }

    /** From 1 up; some of the bits in long rows of ones and zeros. */
    private BigInteger someBits(int most) {
        BigInteger value = new BigInteger(1 + random.nextInt(most), random);
        BigInteger ones = BigInteger.ONE.shiftLeft(random.nextInt(most / 2)).subtract(BigInteger.ONE);
        switch (random.nextInt(3)) {
            case 0:
                return value.setBit(0);
            case 1:
                return value.or(ones).setBit(0);
            default:
                return value.setBit(most / 2).shiftRight(random.nextInt(40)).shiftLeft(random.nextInt(40));
        }
    }

    /** Decimals in the middle between two doubles, or a little aside. */
    private String middle() {
        long bits = random.nextLong() >>> 1;
        int exponent = random.nextInt(5) == 0 ? random.nextInt(3) : 960 + random.nextInt(160);
        bits = bits & (1L << 52) - 1 | (long) exponent << 52;
        BigDecimal exact = new BigDecimal(Double.longBitsToDouble(bits));
        BigDecimal sum = exact.add(new BigDecimal(Double.longBitsToDouble(bits + 1)));
        BigDecimal half = sum.divide(new BigDecimal(2)).stripTrailingZeros();
        BigInteger digits = half.unscaledValue();
        int scale = half.scale();
        String text = digits + oneOf("", ".0", ".0000000001");
        if (random.nextInt(3) == 0) {
            text = digits.subtract(BigInteger.ONE) + oneOf("", ".9", ".9999999999999");
        }
        int room = 390;
        if (text.length() > room && text.indexOf('.') > room) {
            scale -= text.indexOf('.') - room;
            text = text.substring(0, room);
        } else if (text.length() > room) {
            text = text.indexOf('.') < 0 ? text.substring(0, room) : text.substring(0, text.indexOf('.'));
            scale -= Math.max(digits.toString().length() - text.length(), 0);
        }
        return oneOf("", "-") + text + "e" + -scale;
    }

    /** A double of any size or near to a power of ten or two, written, and read again. */
    private void oneDouble() {
        begin();
        long bits = random.nextLong() >>> 1;
        if (random.nextInt(4) == 0) {
            bits = Double.doubleToRawLongBits(Double.parseDouble("1e" + (random.nextInt(632) - 323)))
                + random.nextInt(7) - 3;
        } else if (random.nextInt(3) == 0) {
            bits = ((long) random.nextInt(2047) << 52) + random.nextInt(5) - 2;
        } else if (random.nextInt(3) == 0) {
            bits = bits >>> random.nextInt(60);
        } else if (random.nextInt(3) == 0) {
            bits = Double.doubleToRawLongBits((random.nextLong() >>> 10 + random.nextInt(40)) / 16.0);
        }
        double value = Double.longBitsToDouble(Math.max(bits, 0));
        if (Double.isNaN(value) || Double.isInfinite(value)) {
            return;
        }
        long raw = Double.doubleToRawLongBits(value);
        long units = raw < 1L << 52 ? raw : raw & (1L << 52) - 1 | 1L << 52;
        int place = (int) Math.max(raw >> 52, 1) - 1075;
        same("make(" + units + "," + place + ")", x.make(false, units, place), model.make(false, units, place));
        look();
        x.write(10);
        x.back();
        same("read", x.read(), 2);
        same("units", x.units(), units);
        same("place", x.place(), place);
    }

    private String pick(String from, int count) {
        StringBuilder text = new StringBuilder();
        for (int i = 0; i < count; i++) {
            text.append(from.charAt(random.nextInt(from.length())));
        }
        return text.toString();
    }

    private String oneOf(String... choices) {
        return choices[random.nextInt(choices.length)];
    }
}
