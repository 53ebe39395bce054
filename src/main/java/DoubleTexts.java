/**
 * Numbers read from their texts, exactly or as the nearest double, and doubles written with the fewest digits that
 * tell them. Every row that a call works in is made with the object, so that calls make nothing (but for one longer
 * row, once, when an exact number's digits first ask for it).
 */
public final class DoubleTexts {
    private static final int NONE = 0;
    private static final int EXACT = 1;
    private static final int FINITE = 2;
    private static final int INFINITE = 3;
    private static final int NOT_A_NUMBER = 4;

    private static final int LONGEST_TEXT = 400;
    private static final int GREATEST_CODE = 127;

    /** An exact number's numerator and denominator have no more bits than this. */
    private static final int MOST_BITS = 4096;
    /** 5^1765 has more than 4096 bits. */
    private static final int MOST_FIVES = 1764;

    private static final int LEAST_PLACE = -1074;
    private static final int GREATEST_PLACE = 971;
    private static final long TWO_TO_52 = 1L << 52;
    private static final long TWO_TO_53 = 1L << 53;
    private static final long TWO_TO_54 = 1L << 54;

    private static final int FARTHEST_MADE_PLACE = 2000;

    private final Numeral numeral = new Numeral();
    private final Line text = numeral.line();
    private final Line output = new Line();

    private int numberKind = NONE;
    /** False for none, for a NaN and for an exact zero. */
    private boolean minus = false;
    private long doubleUnits = 0;
    private int doublePlace = 0;
    /** An exact number's absolute value in lowest terms; free to work in while the number is not exact. */
    private final Natural numerator = new Natural();
    private final Natural denominator = new Natural();

    private final Natural spare = new Natural();
    private final Natural otherSpare = new Natural();
    private final ShortestDigits shortest = new ShortestDigits();

    public DoubleTexts() {
    }

    public int type(int code) {
        if (code < 0 || code > GREATEST_CODE || text.size() >= LONGEST_TEXT) {
            return -1;
        }
        text.append(code);
        return text.size();
    }

    public void clear() {
        text.empty();
    }

    public int read() {
        becomeNone();
        int form = numeral.parse(numerator, denominator);
        boolean sign = numeral.hasMinus();
        if (form == Numeral.INFINITY) {
            becomeInfinite(sign);
        } else if (form == Numeral.NAN) {
            becomeNotANumber();
        } else if (form == Numeral.RATIO && numeral.inexactIsAsked()) {
            becomeNearest(sign, 0);
        } else if (form == Numeral.RATIO) {
            bringToLowestTerms();
            becomeExactNumber(sign);
        } else if (form == Numeral.DECIMAL && numeral.exactIsAsked()) {
            becomeExactDecimal(sign, numeral.tens());
        } else if (form == Numeral.DECIMAL) {
            becomeNearestDecimal(sign, numeral.tens(), numeral.significantDigits());
        }
        return numberKind == NONE ? 0 : numberKind == EXACT ? 1 : 2;
    }

    public boolean make(boolean negative, long units, int place) {
        if (units < 0 || place < -FARTHEST_MADE_PLACE || place > FARTHEST_MADE_PLACE) {
            return false;
        }
        numerator.set(units);
        denominator.set(1);
        becomeNearest(negative, place);
        return true;
    }

    public boolean divide(long n, long d) {
        if (d <= 0) {
            return false;
        }
        // The least long's negation wraps to itself, which is its absolute value when read without a sign.
        numerator.set(n < 0 ? -n : n);
        denominator.set(d);
        becomeNearest(n < 0, 0);
        return true;
    }

    public boolean exact() {
        if (numberKind != FINITE) {
            return false;
        }
        numerator.set(doubleUnits);
        denominator.set(1);
        if (doublePlace >= 0) {
            numerator.shiftLeft(doublePlace);
        } else if (doubleUnits != 0) {
            int common = Math.min(Long.numberOfTrailingZeros(doubleUnits), -doublePlace);
            numerator.shiftRight(common);
            denominator.shiftLeft(-doublePlace - common);
        }
        becomeExactNumber(minus);
        return true;
    }

    public boolean inexact() {
        if (numberKind != EXACT) {
            return false;
        }
        becomeNearest(minus, 0);
        return true;
    }

    public int kind() {
        return numberKind;
    }

    public boolean negative() {
        return minus;
    }

    public long units() {
        return numberKind == FINITE ? doubleUnits : -1;
    }

    public int place() {
        return numberKind == FINITE ? doublePlace : 0;
    }

    public int bits(boolean denominator) {
        if (numberKind != EXACT) {
            return -1;
        }
        return denominator ? this.denominator.bitLength() : numerator.bitLength();
    }

    public int write(int base) {
        boolean exactNumber = numberKind == EXACT;
        if (numberKind == NONE || (exactNumber ? base < 2 || base > 16 : base != 10)) {
            return -1;
        }
        output.empty();
        if (exactNumber) {
            appendExactNumber(base);
        } else if (numberKind == FINITE) {
            appendFinite();
        } else if (numberKind == INFINITE) {
            output.append(minus ? '-' : '+');
            output.append("inf.0");
        } else {
            output.append("+nan.0");
        }
        return output.size();
    }

    public int out(int i) {
        return output.codeAt(i);
    }

    public boolean back() {
        if (output.size() > LONGEST_TEXT) {
            return false;
        }
        text.copy(output);
        return true;
    }

    private void becomeNone() {
        numberKind = NONE;
        minus = false;
    }

    private void becomeInfinite(boolean sign) {
        numberKind = INFINITE;
        minus = sign;
    }

    private void becomeNotANumber() {
        numberKind = NOT_A_NUMBER;
        minus = false;
    }

    private void becomeFinite(boolean sign, long units, int place) {
        numberKind = FINITE;
        minus = sign;
        doubleUnits = units;
        doublePlace = place;
    }

    private void becomeZero(boolean sign) {
        becomeFinite(sign, 0, LEAST_PLACE);
    }

    /** The numerator and the denominator stand in lowest terms already. */
    private void becomeExactNumber(boolean sign) {
        numberKind = EXACT;
        minus = sign && !numerator.isZero();
    }

    /** The double nearest to numerator / denominator * 2^twos; uses up the numerator and the denominator. */
    private void becomeNearest(boolean sign, int twos) {
        if (numerator.isZero() || denominator.isZero()) {
            becomeZero(sign);
            return;
        }
        // The value lies between 2^(top - 1) and 2^(top + 1), the upper end not included.
        int top = numerator.bitLength() - denominator.bitLength() + twos;
        if (top < LEAST_PLACE - 1) {
            becomeZero(sign);
        } else if (top > GREATEST_PLACE + 53) {
            becomeInfinite(sign);
        } else {
            int place = Math.max(top - 53, LEAST_PLACE);
            alignTops();
            long quotient = takeQuotient(top - place + 2);
            becomeRounded(sign, quotient, place - 1);
        }
    }

    private void alignTops() {
        int difference = numerator.bitLength() - denominator.bitLength();
        numerator.shiftLeft(-difference);
        denominator.shiftLeft(difference);
    }

    /**
     * The first count binary digits of numerator / denominator, which is below 2, the first of them before the point.
     * The numerator is 0 afterwards only if no other digit follows.
     */
    private long takeQuotient(int count) {
        long quotient = 0;
        for (int i = 0; i < count; i++) {
            quotient <<= 1;
            if (numerator.compare(denominator) >= 0) {
                numerator.subtract(denominator);
                quotient |= 1;
            }
            numerator.multiplyAdd(2, 0);
        }
        return quotient;
    }

    /** The quotient has one or two digits more than the units; what the numerator still holds lies below them. */
    private void becomeRounded(boolean sign, long quotient, int quotientPlace) {
        int extra = quotient >= TWO_TO_54 ? 2 : 1;
        long units = quotient >> extra;
        int place = quotientPlace + extra;
        long cut = quotient & ((1L << extra) - 1);
        long half = 1L << (extra - 1);
        boolean odd = (units & 1) == 1;
        if (cut > half || cut == half && (odd || !numerator.isZero())) {
            units++;
        }
        if (units == TWO_TO_53) {
            units = TWO_TO_52;
            place++;
        }
        if (place > GREATEST_PLACE) {
            becomeInfinite(sign);
        } else {
            becomeFinite(sign, units, place);
        }
    }

    /** The double nearest to numerator * 10^tens, the numerator having that many decimal digits. */
    private void becomeNearestDecimal(boolean sign, int tens, int digits) {
        // The value is below 10^point and not below 10^(point - 1): far outside, no power of five need be made.
        int point = digits + tens;
        if (numerator.isZero() || point < -324) {
            becomeZero(sign);
        } else if (point > 310) {
            becomeInfinite(sign);
        } else {
            denominator.set(1);
            if (tens >= 0) {
                numerator.multiplyByFives(tens);
            } else {
                denominator.multiplyByFives(-tens);
            }
            becomeNearest(sign, tens);
        }
    }

    /** The exact number numerator * 10^tens; stays none if that has too many bits. */
    private void becomeExactDecimal(boolean sign, int tens) {
        denominator.set(1);
        if (numerator.isZero() || (tens >= 0 ? multiplyByTens(tens) : divideByTens(-tens))) {
            becomeExactNumber(sign);
        }
    }

    private boolean multiplyByTens(int tens) {
        // 2^3.321 is a little below 10, so a product refused here has too many bits, and any other has its room.
        if (numerator.bitLength() - 1 + tens * 3321 / 1000 >= MOST_BITS) {
            return false;
        }
        numerator.multiplyByFives(tens);
        numerator.shiftLeft(tens);
        return numerator.bitLength() <= MOST_BITS;
    }

    /** Takes twos and fives out of the numerator first: only the denominator in lowest terms must have its room. */
    private boolean divideByTens(int tens) {
        int twosLeft = tens - Math.min(numerator.trailingZeros(), tens);
        numerator.shiftRight(tens - twosLeft);
        int fivesLeft = tens - numerator.takeFives(tens);
        if (fivesLeft > MOST_FIVES) {
            return false;
        }
        denominator.multiplyByFives(fivesLeft);
        if (denominator.bitLength() + twosLeft > MOST_BITS) {
            return false;
        }
        denominator.shiftLeft(twosLeft);
        return true;
    }

    private void bringToLowestTerms() {
        if (numerator.isZero() || denominator.isOne()) {
            denominator.set(1);
            return;
        }
        int twos = Math.min(numerator.trailingZeros(), denominator.trailingZeros());
        numerator.shiftRight(twos);
        denominator.shiftRight(twos);
        Natural common = greatestOddDivisor();
        if (!common.isOne()) {
            numerator.divideByOddFactor(common);
            denominator.divideByOddFactor(common);
        }
    }

    /** The greatest odd number that divides both the numerator and the denominator, neither of them 0. */
    private Natural greatestOddDivisor() {
        Natural greater = spare;
        Natural smaller = otherSpare;
        greater.copy(numerator);
        smaller.copy(denominator);
        greater.shiftRight(greater.trailingZeros());
        smaller.shiftRight(smaller.trailingZeros());
        // Every turn takes at least one bit away from one of the two.
        for (int turn = 0; turn < 2 * Natural.MOST_WORKING_BITS; turn++) {
            int order = greater.compare(smaller);
            if (order == 0) {
                break;
            }
            if (order < 0) {
                Natural swapped = greater;
                greater = smaller;
                smaller = swapped;
            }
            greater.subtract(smaller);
            greater.shiftRight(greater.trailingZeros());
        }
        return smaller;
    }

    private void appendExactNumber(int base) {
        output.makeRoom(numerator.bitLength() + denominator.bitLength());
        if (minus) {
            output.append('-');
        }
        appendNatural(numerator, base);
        if (!denominator.isOne()) {
            output.append('/');
            appendNatural(denominator, base);
        }
    }

    private void appendNatural(Natural value, int base) {
        if (base < 2 || base > 16) {
            return;
        }
        // Digits come out in groups, so that the long division is done once for many of them.
        int group = base;
        int groupDigits = 1;
        for (; groupDigits < 31 && (long) group * base <= Integer.MAX_VALUE; groupDigits++) {
            group *= base;
        }
        int start = output.size();
        spare.copy(value);
        for (int turn = 0; turn < Natural.MOST_WORKING_BITS && !spare.isZero(); turn++) {
            output.appendLastDigits(spare.divideBySmall(group), base, groupDigits);
        }
        output.dropZerosAtEnd(start);
        if (output.size() == start) {
            output.append('0');
        }
        output.reverseFrom(start);
    }

    private void appendFinite() {
        if (minus) {
            output.append('-');
        }
        shortest.find(doubleUnits, doublePlace);
        int point = shortest.point();
        if (point > 0 && point <= 21) {
            appendShortest(0, point);
            output.append('.');
            appendShortest(point, Math.max(shortest.count(), point + 1));
        } else if (point > -7 && point <= 0) {
            output.append("0.");
            for (int i = point; i < 0; i++) {
                output.append('0');
            }
            appendShortest(0, shortest.count());
        } else {
            appendWithExponent(point - 1);
        }
    }

    private void appendWithExponent(int exponent) {
        appendShortest(0, 1);
        if (shortest.count() > 1) {
            output.append('.');
            appendShortest(1, shortest.count());
        }
        output.append('e');
        if (exponent < 0) {
            output.append('-');
        }
        otherSpare.set(Math.abs(exponent));
        appendNatural(otherSpare, 10);
    }

    private void appendShortest(int from, int to) {
        for (int i = from; i < to; i++) {
            output.append('0' + shortest.digitAt(i));
        }
    }

    /** A row of characters with the codes 0 to 127. */
    private static final class Line {
        private static final int FIRST_ROOM = LONGEST_TEXT;
        /** Two numbers of base 2 with a sign, a / and a group of digits more, before its zeros are dropped. */
        private static final int FULL_ROOM = 2 * MOST_BITS + 34;

        private byte[] codes = new byte[FIRST_ROOM];
        private int size = 0;

        int size() {
            return size;
        }

        int codeAt(int i) {
            return i >= 0 && i < size ? codes[i] : -1;
        }

        void empty() {
            size = 0;
        }

        /** Room for so many digits with what stands around them; the line is empty. */
        void makeRoom(int digits) {
            if (digits + 34 > codes.length) {
                codes = new byte[FULL_ROOM];
            }
        }

        void append(int code) {
            if (size < codes.length) {
                codes[size] = (byte) code;
                size++;
            }
        }

        void append(String word) {
            for (int i = 0; i < word.length(); i++) {
                append(word.charAt(i));
            }
        }

        void copy(Line other) {
            empty();
            for (int i = 0; i < other.size; i++) {
                append(other.codeAt(i));
            }
        }

        /** The last count digits of the value in the base, the last first. */
        void appendLastDigits(int value, int base, int count) {
            if (base < 2) {
                return;
            }
            int left = value;
            for (int i = 0; i < count; i++) {
                int digit = left % base;
                append(digit < 10 ? '0' + digit : 'a' + digit - 10);
                left /= base;
            }
        }

        void dropZerosAtEnd(int start) {
            while (size > start && codeAt(size - 1) == '0') {
                size--;
            }
        }

        void reverseFrom(int start) {
            int low = Math.max(start, 0);
            for (int high = size - 1; low < high; high--) {
                byte code = codes[low];
                codes[low] = codes[high];
                codes[high] = code;
                low++;
            }
        }
    }

    /** The text, and what it tells, found out from its front to its end. */
    private static final class Numeral {
        static final int NO_NUMBER = 0;
        /** Digits, or digits / digits. */
        static final int RATIO = 1;
        /** Digits with a point or an e. */
        static final int DECIMAL = 2;
        static final int INFINITY = 3;
        static final int NAN = 4;

        private static final int MOST_EXPONENT_DIGITS = 4;

        private final Line text = new Line();
        private int at = 0;
        private int base = 0;
        /** The letter of #e or #i; 0 if there is neither. */
        private int exactness = 0;
        private boolean signed = false;
        private boolean minus = false;
        private int tens = 0;
        private int significant = 0;

        Line line() {
            return text;
        }

        boolean exactIsAsked() {
            return exactness == 'e';
        }

        boolean inexactIsAsked() {
            return exactness == 'i';
        }

        boolean hasMinus() {
            return minus;
        }

        /** A decimal is its digits, read as one integer, times 10 to this. */
        int tens() {
            return tens;
        }

        /** How many digits a decimal has, from its first one that is not 0. */
        int significantDigits() {
            return significant;
        }

        /** The text's form; its digits go into the two numbers: a ratio's both, a decimal's into the upper one. */
        int parse(Natural upper, Natural lower) {
            at = 0;
            base = 0;
            exactness = 0;
            tens = 0;
            significant = 0;
            upper.set(0);
            lower.set(1);
            boolean prefixed = takePrefixes();
            if (base == 0) {
                base = 10;
            }
            takeSign();
            int form = !prefixed ? NO_NUMBER : signed ? takeWordOrNumber(upper, lower) : takeNumber(upper, lower);
            return current() < 0 ? form : NO_NUMBER;
        }

        private int takeWordOrNumber(Natural upper, Natural lower) {
            int form = takeWord("inf.0") ? INFINITY : takeWord("nan.0") ? NAN : NO_NUMBER;
            if (form == NO_NUMBER) {
                return takeNumber(upper, lower);
            }
            return exactIsAsked() ? NO_NUMBER : form;
        }

        private int takeNumber(Natural upper, Natural lower) {
            int whole = takeDigits(upper);
            if (whole > 0 && current() == '/') {
                at++;
                lower.set(0);
                takeDigits(lower);
                return lower.isZero() ? NO_NUMBER : RATIO;
            }
            if (base == 10 && (current() == '.' || isExponentMark(current()))) {
                return takeDecimal(upper, whole);
            }
            return whole > 0 ? RATIO : NO_NUMBER;
        }

        private int takeDecimal(Natural upper, int whole) {
            int parts = 0;
            if (current() == '.') {
                at++;
                parts = takeDigits(upper);
            }
            if (whole + parts == 0) {
                return NO_NUMBER;
            }
            tens = -parts;
            return !isExponentMark(current()) || takeExponent() ? DECIMAL : NO_NUMBER;
        }

        private boolean takeExponent() {
            at++;
            boolean below = current() == '-';
            if (below || current() == '+') {
                at++;
            }
            int exponent = 0;
            int count = 0;
            for (; count < MOST_EXPONENT_DIGITS && currentDigit() >= 0; count++) {
                exponent = 10 * exponent + currentDigit();
                at++;
            }
            tens += below ? -exponent : exponent;
            return count > 0;
        }

        /** Whether there is no # or each that is there is one of the known ones and no second of its sort. */
        private boolean takePrefixes() {
            for (int turn = 0; turn < 2 && current() == '#'; turn++) {
                at++;
                int letter = current();
                at++;
                int newBase = baseOf(letter);
                boolean newExactness = letter == 'e' || letter == 'i';
                if (newBase != 0 && base == 0) {
                    base = newBase;
                } else if (newExactness && exactness == 0) {
                    exactness = letter;
                } else {
                    return false;
                }
            }
            return true;
        }

        private static int baseOf(int letter) {
            switch (letter) {
                case 'x':
                    return 16;
                case 'b':
                    return 2;
                case 'o':
                    return 8;
                case 'd':
                    return 10;
                default:
                    return 0;
            }
        }

        private void takeSign() {
            minus = current() == '-';
            signed = minus || current() == '+';
            if (signed) {
                at++;
            }
        }

        private boolean takeWord(String word) {
            for (int i = 0; i < word.length(); i++) {
                if (text.codeAt(at + i) != word.charAt(i)) {
                    return false;
                }
            }
            at += word.length();
            return true;
        }

        /** Puts the digits that follow behind those of the value: how many they are. */
        private int takeDigits(Natural value) {
            int count = 0;
            for (; count < LONGEST_TEXT && currentDigit() >= 0; count++) {
                value.multiplyAdd(base, currentDigit());
                if (!value.isZero()) {
                    significant++;
                }
                at++;
            }
            return count;
        }

        private int current() {
            return text.codeAt(at);
        }

        /** The value of the current character as a digit of the base; -1 if it is none. */
        private int currentDigit() {
            int code = text.codeAt(at);
            int digit = -1;
            if (code >= '0' && code <= '9') {
                digit = code - '0';
            } else if (code >= 'a' && code <= 'f') {
                digit = code - 'a' + 10;
            } else if (code >= 'A' && code <= 'F') {
                digit = code - 'A' + 10;
            }
            return digit < base ? digit : -1;
        }

        private static boolean isExponentMark(int code) {
            return code == 'e' || code == 'E';
        }
    }

    /**
     * The shortest digits of a finite double. The double and its distances to the ends of what lies nearest to it are
     * held as integers over one denominator, so nothing is rounded on the way (Steele and White, Burger and Dybvig).
     */
    private static final class ShortestDigits {
        /** No double needs more than 17. */
        private static final int MOST_DIGITS = 20;
        /** The powers of ten tried over the first guess, which is at most one too low. */
        private static final int MOST_CORRECTIONS = 3;

        private final int[] digits = new int[MOST_DIGITS];
        private int count = 0;
        private int point = 0;

        private final Natural rest = new Natural();
        private final Natural whole = new Natural();
        private final Natural above = new Natural();
        private final Natural below = new Natural();
        private final Natural sum = new Natural();

        int count() {
            return count;
        }

        /** The p of 0.d1 .. dn * 10^p. */
        int point() {
            return point;
        }

        /** Behind the last digit there are zeros. */
        int digitAt(int i) {
            return i >= 0 && i < count && i < MOST_DIGITS ? digits[i] : 0;
        }

        void find(long units, int place) {
            count = 0;
            if (units <= 0) {
                append(0);
                point = 1;
                return;
            }
            boolean endsCount = (units & 1) == 0;
            // The neighbour below a power of two is only half as far away as the one above.
            boolean nearBelow = units == TWO_TO_52 && place > LEAST_PLACE;
            int bits = 64 - Long.numberOfLeadingZeros(units) + place;
            // 2^(bits - 1) is not above the double, and 0.30103 is the decimal logarithm of 2.
            point = Math.floorDiv((bits - 1) * 30103, 100000) + 1;
            setUp(units, place - point, nearBelow);
            scaleByFives();
            for (int i = 0; i < MOST_CORRECTIONS && reachesWhole(endsCount); i++) {
                whole.multiplyAdd(10, 0);
                point++;
            }
            boolean last = false;
            for (int i = 0; i < MOST_DIGITS && !last; i++) {
                last = takeDigit(endsCount);
            }
        }

        private void append(int digit) {
            if (count < MOST_DIGITS) {
                digits[count] = digit;
                count++;
            }
        }

        /**
         * The double is rest / whole * 10^point; what is nearest to it goes below down and above up, as parts of the
         * whole too. The twos of 10^point are in the given ones already.
         */
        private void setUp(long units, int twos, boolean nearBelow) {
            int up = Math.max(twos, 0);
            rest.set(units);
            rest.shiftLeft(up + 2);
            whole.set(1);
            whole.shiftLeft(Math.max(-twos, 0) + 2);
            above.set(1);
            above.shiftLeft(up + 1);
            below.set(1);
            below.shiftLeft(nearBelow ? up : up + 1);
        }

        private void scaleByFives() {
            if (point >= 0) {
                whole.multiplyByFives(point);
            } else {
                rest.multiplyByFives(-point);
                above.multiplyByFives(-point);
                below.multiplyByFives(-point);
            }
        }

        private boolean reachesWhole(boolean endsCount) {
            sum.copy(rest);
            sum.add(above);
            int order = sum.compare(whole);
            return endsCount ? order >= 0 : order > 0;
        }

        /** Appends the next digit: whether it is the last one. */
        private boolean takeDigit(boolean endsCount) {
            rest.multiplyAdd(10, 0);
            above.multiplyAdd(10, 0);
            below.multiplyAdd(10, 0);
            int digit = 0;
            while (digit < 9 && rest.compare(whole) >= 0) {
                rest.subtract(whole);
                digit++;
            }
            int order = rest.compare(below);
            boolean downCounts = endsCount ? order <= 0 : order < 0;
            boolean upCounts = reachesWhole(endsCount);
            boolean up = upCounts && (!downCounts || isNearerUp(digit));
            append(up ? digit + 1 : digit);
            return downCounts || upCounts;
        }

        private boolean isNearerUp(int digit) {
            sum.copy(rest);
            sum.shiftLeft(1);
            int order = sum.compare(whole);
            return order > 0 || order == 0 && (digit & 1) == 1;
        }
    }

    /**
     * A natural number that changes in place. Its room is above all that the callers ask for; an operation whose
     * outcome had no room would drop its upper words or leave the number as it is.
     */
    private static final class Natural {
        /** 4096 bits, and some more for a product that is found to be too great and for aligning a quotient. */
        private static final int ROOM = 132;
        static final int MOST_WORKING_BITS = 32 * ROOM;

        private static final long LOW_WORD = 0xFFFFFFFFL;
        private static final int GREATEST_FIVES = 13;
        private static final int[] POWERS_OF_FIVE = {
            1, 5, 25, 125, 625, 3125, 15625, 78125, 390625, 1953125, 9765625, 48828125, 244140625, 1220703125
        };

        /** The lowest first; those from size on mean nothing. */
        private final int[] words = new int[ROOM];
        /** The word below it is not 0. */
        private int size = 0;

        /** The value is taken without a sign. */
        void set(long value) {
            words[0] = (int) value;
            words[1] = (int) (value >>> 32);
            size = 2;
            trim();
        }

        void copy(Natural other) {
            for (int i = 0; i < other.size && i < ROOM; i++) {
                words[i] = other.words[i];
            }
            size = other.size;
        }

        boolean isZero() {
            return size == 0;
        }

        boolean isOne() {
            return size == 1 && words[0] == 1;
        }

        int bitLength() {
            return size == 0 ? 0 : 32 * size - Integer.numberOfLeadingZeros(wordAt(size - 1));
        }

        /** 0 for 0. */
        int trailingZeros() {
            for (int i = 0; i < size; i++) {
                if (wordAt(i) != 0) {
                    return 32 * i + Integer.numberOfTrailingZeros(wordAt(i));
                }
            }
            return 0;
        }

        int compare(Natural other) {
            if (size != other.size) {
                return Integer.compare(size, other.size);
            }
            for (int i = size - 1; i >= 0; i--) {
                int order = Integer.compareUnsigned(wordAt(i), other.wordAt(i));
                if (order != 0) {
                    return order;
                }
            }
            return 0;
        }

        void add(Natural other) {
            int longer = Math.max(size, other.size);
            long carry = 0;
            for (int i = 0; i < longer && i < ROOM; i++) {
                carry += (wordAt(i) & LOW_WORD) + (other.wordAt(i) & LOW_WORD);
                words[i] = (int) carry;
                carry >>>= 32;
            }
            size = longer;
            append((int) carry);
        }

        /** The other is not greater. */
        void subtract(Natural other) {
            long borrow = 0;
            for (int i = 0; i < size && i < ROOM; i++) {
                borrow += (words[i] & LOW_WORD) - (other.wordAt(i) & LOW_WORD);
                words[i] = (int) borrow;
                borrow >>= 32;
            }
            trim();
        }

        /** Neither the factor nor the addend is below 0. */
        void multiplyAdd(int factor, int addend) {
            long carry = addend;
            for (int i = 0; i < size && i < ROOM; i++) {
                carry += (words[i] & LOW_WORD) * factor;
                words[i] = (int) carry;
                carry >>>= 32;
            }
            append((int) carry);
        }

        void multiplyByFives(int fives) {
            for (int left = fives; left > 0; left -= GREATEST_FIVES) {
                multiplyAdd(powerOfFive(left), 0);
            }
        }

        /** Divides by 5 as long as nothing is left over, at most so many times: how many times it was. */
        int takeFives(int most) {
            int taken = GREATEST_FIVES * takeFactor(powerOfFive(GREATEST_FIVES), most / GREATEST_FIVES);
            return taken + takeFactor(5, most - taken);
        }

        private int takeFactor(int factor, int most) {
            int taken = 0;
            while (taken < most && size > 0 && remainder(factor) == 0) {
                divideBySmall(factor);
                taken++;
            }
            return taken;
        }

        private static int powerOfFive(int fives) {
            int i = Math.min(fives, GREATEST_FIVES);
            return i >= 0 && i < POWERS_OF_FIVE.length ? POWERS_OF_FIVE[i] : 1;
        }

        private int remainder(int divisor) {
            if (divisor <= 0) {
                return 0;
            }
            long left = 0;
            for (int i = size - 1; i >= 0; i--) {
                left = (left << 32 | wordAt(i) & LOW_WORD) % divisor;
            }
            return (int) left;
        }

        /** Divides by a divisor above 0: what is left over. */
        int divideBySmall(int divisor) {
            if (divisor <= 0) {
                return 0;
            }
            long left = 0;
            for (int i = Math.min(size, ROOM) - 1; i >= 0; i--) {
                long upper = left << 32 | words[i] & LOW_WORD;
                words[i] = (int) (upper / divisor);
                left = upper % divisor;
            }
            trim();
            return (int) left;
        }

        /**
         * Divides by an odd number that leaves nothing over: then the quotient's words follow from the lowest up,
         * each by a multiplication, and none need be guessed.
         */
        void divideByOddFactor(Natural odd) {
            int inverse = inverse(odd.wordAt(0));
            for (int i = 0; i < size && i < ROOM; i++) {
                int quotient = words[i] * inverse;
                if (quotient != 0) {
                    subtractProduct(quotient, odd, i);
                }
                words[i] = quotient;
            }
            trim();
        }

        private void subtractProduct(int factor, Natural other, int from) {
            long carry = 0;
            for (int i = Math.max(from, 0); i < size && i < ROOM; i++) {
                carry += (factor & LOW_WORD) * (other.wordAt(i - from) & LOW_WORD);
                int product = (int) carry;
                carry >>>= 32;
                if (Integer.compareUnsigned(words[i], product) < 0) {
                    carry++;
                }
                words[i] -= product;
            }
        }

        /** The number whose product with the odd one ends in the word 1; each turn doubles the bits that are right. */
        private static int inverse(int odd) {
            int inverse = odd;
            for (int rightBits = 3; rightBits < 32; rightBits *= 2) {
                inverse *= 2 - odd * inverse;
            }
            return inverse;
        }

        void shiftLeft(int count) {
            int bits = bitLength();
            if (size == 0 || count <= 0 || count > MOST_WORKING_BITS - bits) {
                return;
            }
            int skipped = count >> 5;
            int part = count & 31;
            int newSize = (bits + count + 31) >> 5;
            for (int i = newSize - 1; i >= 0; i--) {
                // Two steps, as a shift by 32 would be one by 0.
                int carried = wordAt(i - skipped - 1) >>> 1 >>> (31 - part);
                words[i] = wordAt(i - skipped) << part | carried;
            }
            size = newSize;
        }

        void shiftRight(int count) {
            if (count <= 0) {
                return;
            }
            int skipped = count >> 5;
            int part = count & 31;
            int newSize = Math.max(size - skipped, 0);
            for (int i = 0; i < newSize && i < ROOM; i++) {
                int carried = wordAt(i + skipped + 1) << 1 << (31 - part);
                words[i] = wordAt(i + skipped) >>> part | carried;
            }
            size = newSize;
            trim();
        }

        private int wordAt(int i) {
            return i >= 0 && i < size && i < ROOM ? words[i] : 0;
        }

        private void append(int word) {
            if (word != 0 && size >= 0 && size < ROOM) {
                words[size] = word;
                size++;
            }
        }

        private void trim() {
            while (size > 0 && wordAt(size - 1) == 0) {
                size--;
            }
        }
    }
}
