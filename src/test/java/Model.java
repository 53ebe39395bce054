import java.math.BigDecimal;
import java.math.BigInteger;
import java.util.regex.Matcher;
import java.util.regex.Pattern;

/**
 * The document once more, on the library's great numbers and by other ways than the class goes: texts by a pattern,
 * the nearest double by halving the row of all doubles, the shortest digits by trying each count of digits.
 */
final class Model {
    private static final Pattern PREFIXES = Pattern.compile(
        "(?:#(?<b1>[xbod]))?(?:#(?<e1>[ei]))?(?<r1>[^#]*)|#(?<e2>[ei])#(?<b2>[xbod])(?<r2>[^#]*)", Pattern.DOTALL);
    private static final Pattern RATIO = Pattern.compile("([+-]?)([0-9a-fA-F]+)(?:/([0-9a-fA-F]+))?");
    private static final Pattern DECIMAL = Pattern.compile("([+-]?)([0-9]*)(\\.?)([0-9]*)(?:[eE]([+-]?[0-9]{1,4}))?");
    private static final Pattern WORD = Pattern.compile("([+-])(inf|nan)\\.0");
    private static final long INFINITE_BITS = Double.doubleToRawLongBits(Double.POSITIVE_INFINITY);

    private StringBuilder text = new StringBuilder();
    private String output = "";
    private int kind = 0;
    private boolean minus = false;
    private BigInteger upper;
    private BigInteger lower;
    private double value;

    int type(int code) {
        if (code < 0 || code > 127 || text.length() == 400) {
            return -1;
        }
        text.append((char) code);
        return text.length();
    }

    void clear() {
        text = new StringBuilder();
    }

    int read() {
        kind = 0;
        minus = false;
        Matcher prefixes = PREFIXES.matcher(text);
        if (prefixes.matches()) {
            String base = first(prefixes.group("b1"), prefixes.group("b2"), "d");
            String exactness = first(prefixes.group("e1"), prefixes.group("e2"), "");
            String rest = first(prefixes.group("r1"), prefixes.group("r2"), "");
            readRest("b.....o.d.....x".indexOf(base.charAt(0)) + 2, exactness, rest);
        }
        return Math.min(kind, 2);
    }

    private static String first(String a, String b, String otherwise) {
        return a != null ? a : b != null ? b : otherwise;
    }

    private void readRest(int base, String exactness, String rest) {
        Matcher word = WORD.matcher(rest);
        Matcher ratio = RATIO.matcher(rest);
        Matcher decimal = DECIMAL.matcher(rest);
        if (word.matches()) {
            if (!exactness.equals("e")) {
                setDouble(word.group(2).equals("nan") ? Double.NaN
                    : word.group(1).equals("-") ? Double.NEGATIVE_INFINITY : Double.POSITIVE_INFINITY);
            }
        } else if (ratio.matches() && isNumber(ratio.group(2), base) && isNumber(ratio.group(3), base)) {
            BigInteger n = new BigInteger(ratio.group(2), base);
            BigInteger d = ratio.group(3) == null ? BigInteger.ONE : new BigInteger(ratio.group(3), base);
            boolean negative = ratio.group(1).equals("-");
            if (d.signum() != 0 && exactness.equals("i")) {
                setNearest(negative, n, d);
            } else if (d.signum() != 0) {
                setExact(negative, n, d);
            }
        } else if (base == 10 && decimal.matches() && !(decimal.group(2) + decimal.group(4)).isEmpty()) {
            readDecimal(decimal, exactness.equals("e"));
        }
    }

    private static boolean isNumber(String digits, int base) {
        for (int i = 0; digits != null && i < digits.length(); i++) {
            if (Character.digit(digits.charAt(i), base) < 0) {
                return false;
            }
        }
        return true;
    }

    private void readDecimal(Matcher decimal, boolean exact) {
        BigInteger digits = new BigInteger(decimal.group(2) + decimal.group(4));
        int tens = (decimal.group(5) == null ? 0 : Integer.parseInt(decimal.group(5))) - decimal.group(4).length();
        BigInteger n = tens > 0 ? digits.multiply(BigInteger.TEN.pow(tens)) : digits;
        BigInteger d = tens < 0 ? BigInteger.TEN.pow(-tens) : BigInteger.ONE;
        boolean negative = decimal.group(1).equals("-");
        if (exact) {
            setExact(negative, n, d);
        } else {
            setNearest(negative, n, d);
        }
    }

    boolean make(boolean negative, long units, int place) {
        if (units < 0 || place < -2000 || place > 2000) {
            return false;
        }
        BigInteger n = BigInteger.valueOf(units).shiftLeft(Math.max(place, 0));
        setNearest(negative, n, BigInteger.ONE.shiftLeft(Math.max(-place, 0)));
        return true;
    }

    boolean divide(long n, long d) {
        if (d <= 0) {
            return false;
        }
        setNearest(n < 0, BigInteger.valueOf(n).abs(), BigInteger.valueOf(d));
        return true;
    }

    boolean exact() {
        if (kind != 2) {
            return false;
        }
        BigInteger n = BigInteger.valueOf(units()).shiftLeft(Math.max(place(), 0));
        setExact(minus, n, BigInteger.ONE.shiftLeft(Math.max(-place(), 0)));
        return true;
    }

    boolean inexact() {
        if (kind != 1) {
            return false;
        }
        setNearest(minus, upper, lower);
        return true;
    }

    int kind() {
        return kind;
    }

    boolean negative() {
        return minus;
    }

    long units() {
        if (kind != 2) {
            return -1;
        }
        long bits = Double.doubleToRawLongBits(Math.abs(value));
        return bits < 1L << 52 ? bits : bits & (1L << 52) - 1 | 1L << 52;
    }

    int place() {
        if (kind != 2) {
            return 0;
        }
        return (int) Math.max(Double.doubleToRawLongBits(Math.abs(value)) >> 52, 1) - 1075;
    }

    int bits(boolean denominator) {
        return kind != 1 ? -1 : denominator ? lower.bitLength() : upper.bitLength();
    }

    int write(int base) {
        boolean known = kind == 1 ? base >= 2 && base <= 16 : kind != 0 && base == 10;
        if (!known) {
            return -1;
        }
        String sign = minus ? "-" : "";
        if (kind == 1) {
            String below = lower.equals(BigInteger.ONE) ? "" : "/" + lower.toString(base);
            output = sign + upper.toString(base) + below;
        } else if (kind == 2) {
            output = sign + writtenFinite(Math.abs(value));
        } else {
            output = kind == 4 ? "+nan.0" : minus ? "-inf.0" : "+inf.0";
        }
        return output.length();
    }

    int out(int i) {
        return i >= 0 && i < output.length() ? output.charAt(i) : -1;
    }

    boolean back() {
        if (output.length() > 400) {
            return false;
        }
        text = new StringBuilder(output);
        return true;
    }

    private void setDouble(double newValue) {
        value = newValue;
        kind = Double.isNaN(value) ? 4 : Double.isInfinite(value) ? 3 : 2;
        minus = kind != 4 && Double.doubleToRawLongBits(value) < 0;
    }

    private void setExact(boolean negative, BigInteger n, BigInteger d) {
        BigInteger common = n.gcd(d);
        upper = n.divide(common);
        lower = d.divide(common);
        boolean fits = upper.bitLength() <= 4096 && lower.bitLength() <= 4096;
        kind = fits ? 1 : 0;
        minus = fits && negative && upper.signum() != 0;
    }

    private void setNearest(boolean negative, BigInteger n, BigInteger d) {
        double nearest = Double.longBitsToDouble(nearestBits(n, d));
        setDouble(negative ? -nearest : nearest);
    }

    /** Doubles from 0 up have bits that grow with them, so the last one not above n / d is found by halving. */
    private static long nearestBits(BigInteger n, BigInteger d) {
        long low = 0;
        long high = INFINITE_BITS;
        if (compare(n, d, high) >= 0) {
            return high;
        }
        while (high - low > 1) {
            long middle = low + high >>> 1;
            if (compare(n, d, middle) >= 0) {
                low = middle;
            } else {
                high = middle;
            }
        }
        BigDecimal twice = exactValue(low).add(exactValue(high));
        int order = compare(n.shiftLeft(1), d, twice);
        return order < 0 || order == 0 && (low & 1) == 0 ? low : high;
    }

    private static int compare(BigInteger n, BigInteger d, long bits) {
        return compare(n, d, exactValue(bits));
    }

    private static int compare(BigInteger n, BigInteger d, BigDecimal value) {
        return new BigDecimal(n).compareTo(new BigDecimal(d).multiply(value));
    }

    private static BigDecimal exactValue(long bits) {
        return bits == INFINITE_BITS ? new BigDecimal(BigInteger.ONE.shiftLeft(1024))
            : new BigDecimal(Double.longBitsToDouble(bits));
    }

    private static String writtenFinite(double positive) {
        String digits = "0";
        int p = 1;
        if (positive != 0) {
            BigDecimal shortest = shortest(positive).stripTrailingZeros();
            digits = shortest.unscaledValue().toString();
            p = digits.length() - shortest.scale();
        }
        if (p > 0 && p <= 21) {
            String padded = digits + "0".repeat(Math.max(p - digits.length(), 0));
            return padded.substring(0, p) + "." + (padded.length() > p ? padded.substring(p) : "0");
        }
        if (p > -7 && p <= 0) {
            return "0." + "0".repeat(-p) + digits;
        }
        return digits.charAt(0) + (digits.length() > 1 ? "." + digits.substring(1) : "") + "e" + (p - 1);
    }

    /** Of all decimals with n digits, for the least n that has some, the best that is nearest to no other double. */
    private static BigDecimal shortest(double positive) {
        long bits = Double.doubleToRawLongBits(positive);
        BigDecimal exact = exactValue(bits);
        BigDecimal two = new BigDecimal(2);
        BigDecimal from = exact.add(exactValue(bits - 1)).divide(two);
        BigDecimal to = exact.add(exactValue(bits + 1)).divide(two);
        boolean endsCount = (bits & 1) == 0;
        int first = exact.precision() - exact.scale();
        for (int n = 1; n <= 20; n++) {
            BigDecimal best = null;
            // A decimal of n digits may have its first digit one place over the exact value's first.
            for (int top = first; top <= first + 1; top++) {
                BigDecimal step = BigDecimal.ONE.scaleByPowerOfTen(top - n);
                BigDecimal down = exact.divideToIntegralValue(step).multiply(step);
                for (BigDecimal candidate : new BigDecimal[] {down, down.add(step)}) {
                    int low = candidate.compareTo(from);
                    int high = candidate.compareTo(to);
                    boolean counts = endsCount ? low >= 0 && high <= 0 : low > 0 && high < 0;
                    if (counts && (best == null || isBetter(candidate, best, exact, step))) {
                        best = candidate;
                    }
                }
            }
            if (best != null) {
                return best;
            }
        }
        throw new IllegalStateException("no digits tell " + positive);
    }

    private static boolean isBetter(BigDecimal candidate, BigDecimal best, BigDecimal exact, BigDecimal step) {
        int order = candidate.subtract(exact).abs().compareTo(best.subtract(exact).abs());
        boolean even = !candidate.divideToIntegralValue(step).toBigInteger().testBit(0);
        return order < 0 || order == 0 && even;
    }
}
