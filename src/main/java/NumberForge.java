/**
 * Numbers of ten types in eight registers: read from text, reckoned with, rounded, cast, compared and written.
 * Every object that is ever used is made by the constructor, so calls make none but the exceptions they throw.
 */
public final class NumberForge {
    public static final int NONE = -1;

    private static final int DECIMAL = 0;
    private static final int INTEGER = 1;
    private static final int FLOAT = 8;
    private static final int DOUBLE = 9;

    private static final int ADD = 0;
    private static final int SUBTRACT = 1;
    private static final int MULTIPLY = 2;
    private static final int DIVIDE = 3;
    private static final int WHOLE_PART = 4;
    private static final int REST = 5;

    private static final int NEGATE = 0;
    private static final int AMOUNT = 1;
    private static final int NOT_ABOVE = 2;
    private static final int NOT_BELOW = 3;
    private static final int NEAREST_GREATER = 4;

    private static final int OPERATIONS = 6;
    private static final int STYLES = 5;
    private static final int REGISTERS = 8;
    private static final int TEXT_LENGTH = 40;
    /** Above the longest output: 39 zeros of a picture with a comma between any two, and a sign. */
    private static final int OUTPUT_LENGTH = 128;

    private static final int FINEST_SCALE = 6;
    private static final int MOST_DIGITS = 15;
    private static final long LIMIT = 1000000000000000L;
    private static final long[] POWERS = {
        1L, 10L, 100L, 1000L, 10000L, 100000L, 1000000L, 10000000L,
        100000000L, 1000000000L, 10000000000L, 100000000000L,
        1000000000000L, 10000000000000L, 100000000000000L, 1000000000000000L
    };
    /** By the exact types: DECIMAL, INTEGER, INT, SHORT, BYTE, UNSIGNED BYTE, NOT NEGATIVE, POSITIVE. */
    private static final long[] LOWEST = {
        -999999999999999L, -999999999999999L, -2147483648L, -32768L, -128L, 0L, 0L, 1L
    };
    private static final long[] HIGHEST = {
        999999999999999L, 999999999999999L, 2147483647L, 32767L, 127L, 255L, 999999999999999L, 999999999999999L
    };

    private static final int ROMAN_HIGHEST = 3999;
    private static final int[] ROMAN_VALUES = {1000, 900, 500, 400, 100, 90, 50, 40, 10, 9, 5, 4, 1};
    /** Two characters for each of ROMAN_VALUES. */
    private static final String ROMAN_LETTERS = "m cmd cdc xcl xlx ixv ivi ";

    private final Value[] registers = new Value[REGISTERS];
    /** Answers are made here first: a call that throws half way leaves every register as it was. */
    private final Value answer = new Value();
    private final Row text = new Row(TEXT_LENGTH);
    private final Row written = new Row(OUTPUT_LENGTH);
    private final Numeral numeral = new Numeral();
    private final Picture pattern = new Picture();
    private final Digits digits = new Digits();
    private final Wide wide = new Wide();

    public NumberForge() {
        for (int r = 0; r < registers.length; r++) {
            registers[r] = new Value();
        }
    }

    public boolean type(long part) {
        int more = 0;
        for (int shift = 56; shift >= 0; shift -= 8) {
            int code = (int) (part >>> shift) & 255;
            if (code != 0 && (code < 32 || code > 126)) {
                return false;
            }
            more += code == 0 ? 0 : 1;
        }
        if (text.length + more > TEXT_LENGTH) {
            return false;
        }
        for (int shift = 56; shift >= 0; shift -= 8) {
            int code = (int) (part >>> shift) & 255;
            if (code != 0) {
                text.add((char) code);
            }
        }
        return true;
    }

    public void wipe() {
        text.clear();
    }

    public void read(int r, int type)
            throws IndexOutOfBoundsException, IllegalArgumentException, UnsupportedOperationException {
        Value to = register(r);
        checkIndex(type, DOUBLE + 1);
        if (!numeral.parse(text, type)) {
            throw new IllegalArgumentException("not written as this type is");
        }
        if (type >= FLOAT) {
            answer.becomeFloating(type, numeral.asFloating());
        } else {
            answer.becomeUnits(type, numeral.units(), numeral.scale());
            checkFits(answer.units, type);
        }
        to.become(answer);
        text.clear();
    }

    public void put(int r, double v, boolean single)
            throws IndexOutOfBoundsException {
        Value to = register(r);
        // The document rules NaN out; it must not get into a register by mistake.
        if (v == v) {
            to.becomeFloating(single ? FLOAT : DOUBLE, v);
        }
    }

    public void reckon(int operation, int a, int b, int to)
            throws IndexOutOfBoundsException, IllegalStateException, ArithmeticException,
            UnsupportedOperationException {
        Value target = register(to);
        Value left = register(a);
        Value right = register(b);
        checkIndex(operation, OPERATIONS);
        checkFull(left);
        checkFull(right);
        if (left.isFloating() || right.isFloating()) {
            reckonFloating(operation, left, right);
        } else {
            reckonUnits(operation, left, right);
        }
        target.become(answer);
    }

    public void one(int operation, int a, int to)
            throws IndexOutOfBoundsException, IllegalStateException {
        Value target = register(to);
        Value value = register(a);
        checkIndex(operation, OPERATIONS);
        checkFull(value);
        if (value.isFloating()) {
            answer.becomeFloating(value.type, floatingOne(operation, value.real));
        } else {
            exactOne(operation, value);
        }
        target.become(answer);
    }

    public void cast(int a, int type, int to)
            throws IndexOutOfBoundsException, IllegalStateException, ArithmeticException,
            UnsupportedOperationException, IllegalArgumentException {
        Value target = register(to);
        Value value = register(a);
        checkIndex(type, DOUBLE + 1);
        checkFull(value);
        castIntoAnswer(value, type);
        target.become(answer);
    }

    public int compare(int a, int b)
            throws IndexOutOfBoundsException, IllegalStateException {
        Value left = register(a);
        Value right = register(b);
        checkFull(left);
        checkFull(right);
        if (left.type == DOUBLE || right.type == DOUBLE) {
            return order(left.asDouble(), right.asDouble());
        }
        if (left.type == FLOAT || right.type == FLOAT) {
            return order(left.asFloat(), right.asFloat());
        }
        return exactOrder(left, right);
    }

    public int kind(int r) {
        return isRegister(r) ? registers[r].type : NONE;
    }

    public double real(int r)
            throws IndexOutOfBoundsException, IllegalStateException {
        Value value = register(r);
        checkFull(value);
        return value.asDouble();
    }

    public long exact(int r, int part) {
        if (!isRegister(r) || !registers[r].holdsUnits()) {
            return 0;
        }
        return part == 0 ? registers[r].units : part == 1 ? registers[r].scale : 0;
    }

    public int write(int r)
            throws IndexOutOfBoundsException, IllegalStateException, UnsupportedOperationException {
        Value value = register(r);
        checkFull(value);
        if (value.isFloating()) {
            writeFloating(value);
        } else {
            writeUnits(value);
        }
        return written.length;
    }

    public int picture(int r)
            throws IndexOutOfBoundsException, IllegalStateException, IllegalArgumentException,
            ArithmeticException, UnsupportedOperationException {
        Value value = register(r);
        checkFull(value);
        if (!pattern.parse(text)) {
            throw new IllegalArgumentException("the text is no picture");
        }
        castIntoAnswer(value, DECIMAL);
        if (pattern.hasPercent) {
            wide.become(Math.abs(answer.units) * 100);
            wide.settle(answer, DECIMAL, answer.units < 0, answer.scale);
        }
        roundAnswer(pattern.fractionZeros + pattern.fractionHashes);
        pattern.fill(text, answer, written);
        return written.length;
    }

    public int letters(int r, int style)
            throws IndexOutOfBoundsException, IllegalStateException {
        Value value = register(r);
        checkIndex(style, STYLES);
        if (!value.holdsUnits() || value.type == DECIMAL) {
            throw new IllegalStateException("letters are for the types 1 to 7");
        }
        boolean great = style == 2 || style == 4;
        if (style >= 3 && value.units >= 1 && value.units <= ROMAN_HIGHEST) {
            writeRoman(value.units, great);
        } else if ((style == 1 || style == 2) && value.units >= 1) {
            writeAlphabet(value.units, great);
        } else {
            writeUnits(value);
        }
        return written.length;
    }

    public int output(int k) {
        if (k == -1) {
            return written.length;
        }
        return k >= 0 && k < written.length ? written.at(k) : NONE;
    }

    // ---- What the calls look at before they begin

    private boolean isRegister(int r) {
        return r >= 0 && r < registers.length;
    }

    private Value register(int r) {
        if (r < 0 || r >= registers.length) {
            throw new IndexOutOfBoundsException("no such register");
        }
        return registers[r];
    }

    private static void checkIndex(int index, int count) {
        if (index < 0 || index >= count) {
            throw new IndexOutOfBoundsException("no such type, operation or style");
        }
    }

    private static void checkFull(Value value) {
        if (value.type == NONE) {
            throw new IllegalStateException("the register is empty");
        }
    }

    private static void checkFits(long whole, int type) {
        if (type > INTEGER && type < FLOAT && (whole < LOWEST[type] || whole > HIGHEST[type])) {
            throw new IllegalArgumentException("does not fit the type");
        }
    }

    // ---- Whole numbers

    /** 10^k; those who ask keep k within the row. */
    private static long power(int k) {
        return k >= 0 && k < POWERS.length ? POWERS[k] : 1;
    }

    private static long over(long dividend, long divisor) {
        return divisor == 0 ? 0 : dividend / divisor;
    }

    private static long left(long dividend, long divisor) {
        return divisor == 0 ? 0 : dividend % divisor;
    }

    /** dividend / divisor half even, for dividends not below 0. */
    private static long overHalfEven(long dividend, long divisor) {
        long quotient = over(dividend, divisor);
        return quotient + (isRoundedUp(quotient, left(dividend, divisor), divisor) ? 1 : 0);
    }

    private static boolean isRoundedUp(long quotient, long rest, long divisor) {
        return 2 * rest > divisor || 2 * rest == divisor && quotient % 2 != 0;
    }

    private static int digitCount(long number) {
        int count = 1;
        while (count < POWERS.length && number >= POWERS[count]) {
            count++;
        }
        return count;
    }

    /** The digit of a number that counts 10^place: 0 where it has none. */
    private static char digitAt(long number, int place) {
        return (char) ('0' + (place < POWERS.length ? over(number, power(place)) % 10 : 0));
    }

    // ---- Doubles

    /** 10^k as a double, which it is exactly for 0 .. 22. */
    private static double ten(int k) {
        double power = 1.0;
        for (int i = 0; i < k && i < 22; i++) {
            power = power * 10.0;
        }
        return power;
    }

    /** x * TEN(k), or x / TEN(-k) for k below 0: by the inverse of a power there would be a second rounding. */
    private static double timesTen(double x, int k) {
        return k < 0 ? x / ten(-k) : x * ten(k);
    }

    private static double amount(double x) {
        // 0.0 - x, since -x would make -0 of 0 and would have to be kept from it.
        return x <= 0 ? 0.0 - x : x;
    }

    private static boolean isInfinite(double x) {
        return amount(x) > 1.7976931348623157E308;
    }

    private static boolean isMinusZero(double x) {
        // Nothing but a quotient tells the two zeros apart.
        return x == 0 && 1.0 / x < 0;
    }

    /** The nearest whole number, for x from 0 to below 2^52, where x less its whole part is exact. */
    private static long nearestEven(double x) {
        long whole = (long) x;
        return isHalfEvenUp(whole, x - (double) whole) ? whole + 1 : whole;
    }

    private static boolean isHalfEvenUp(long whole, double rest) {
        return rest > 0.5 || rest == 0.5 && whole % 2 != 0;
    }

    /** a % b by binary long division, each step of which is exact, for finite a and b above 0. */
    private static double floatingRest(double a, double b) {
        if (a == 0) {
            return a;
        }
        double rest = amount(a);
        double part = b;
        int doublings = 0;
        // No double has 2^2100 times the amount of another.
        while (doublings < 2100 && rest - part >= part) {
            part = part + part;
            doublings++;
        }
        for (int k = doublings; k >= 0; k--) {
            if (rest >= part) {
                rest = rest - part;
            }
            part = part / 2;
        }
        return a < 0 ? -rest : rest;
    }

    private static int order(double a, double b) {
        return a < b ? -1 : a > b ? 1 : 0;
    }

    // ---- Reckoning

    private void reckonFloating(int operation, Value a, Value b) {
        int type = a.type == DOUBLE || b.type == DOUBLE ? DOUBLE : FLOAT;
        double x = type == DOUBLE ? a.asDouble() : a.asFloat();
        double y = type == DOUBLE ? b.asDouble() : b.asFloat();
        if (isNoNumber(operation, x, y)) {
            throw new ArithmeticException("no such number");
        }
        if (operation == WHOLE_PART) {
            wholePartOf(type == DOUBLE ? x / y : (float) x / (float) y);
        } else if (operation == REST) {
            // Among floats the rest is a float too, so both types take the one way.
            answer.becomeFloating(type, floatingRest(x, amount(y)));
        } else if (type == DOUBLE) {
            answer.becomeFloating(type, doubleAnswer(operation, x, y));
        } else {
            answer.becomeFloating(type, floatAnswer(operation, (float) x, (float) y));
        }
    }

    /** What Java would call NaN, and what the document refuses besides. */
    private static boolean isNoNumber(int operation, double x, double y) {
        boolean bothInfinite = isInfinite(x) && isInfinite(y);
        switch (operation) {
            case ADD:
                return bothInfinite && x > 0 != y > 0;
            case SUBTRACT:
                return bothInfinite && x > 0 == y > 0;
            case MULTIPLY:
                return x == 0 && isInfinite(y) || isInfinite(x) && y == 0;
            case DIVIDE:
                return bothInfinite || x == 0 && y == 0;
            case WHOLE_PART:
                return bothInfinite || y == 0;
            default:
                return isInfinite(x) || y == 0;
        }
    }

    private void wholePartOf(double quotient) {
        if (isInfinite(quotient)) {
            throw new ArithmeticException("the quotient is infinite");
        }
        answer.becomeUnits(INTEGER, wholeBelowLimit(quotient), 0);
    }

    private static long wholeBelowLimit(double x) {
        if (amount(x) >= (double) LIMIT) {
            throw new UnsupportedOperationException("LIMIT");
        }
        return (long) x;
    }

    private static double doubleAnswer(int operation, double x, double y) {
        switch (operation) {
            case ADD:
                return x + y;
            case SUBTRACT:
                return x - y;
            case MULTIPLY:
                return x * y;
            default:
                return x / y;
        }
    }

    private static float floatAnswer(int operation, float x, float y) {
        switch (operation) {
            case ADD:
                return x + y;
            case SUBTRACT:
                return x - y;
            case MULTIPLY:
                return x * y;
            default:
                return x / y;
        }
    }

    private void reckonUnits(int operation, Value a, Value b) {
        int type = a.type == DECIMAL || b.type == DECIMAL ? DECIMAL : INTEGER;
        if (operation >= DIVIDE && b.units == 0) {
            throw new ArithmeticException("by 0");
        }
        switch (operation) {
            case ADD:
                exactSum(a, b, b.units, type);
                break;
            case SUBTRACT:
                exactSum(a, b, -b.units, type);
                break;
            case MULTIPLY:
                wide.becomeProduct(Math.abs(a.units), Math.abs(b.units));
                wide.settle(answer, type, haveOtherSigns(a, b), a.scale + b.scale);
                break;
            case DIVIDE:
                exactQuotient(a, b);
                break;
            case WHOLE_PART:
                exactWholePart(a, b);
                break;
            default:
                exactRest(a, b, type);
                break;
        }
    }

    private static boolean haveOtherSigns(Value a, Value b) {
        return a.units < 0 != b.units < 0;
    }

    /** a and what b is with other units: its own or those negated. */
    private void exactSum(Value a, Value b, long unitsOfB, int type) {
        int scale = Math.max(a.scale, b.scale);
        long sum = atScale(a.units, a.scale, scale) + atScale(unitsOfB, b.scale, scale);
        wide.become(Math.abs(sum));
        wide.settle(answer, type, sum < 0, scale);
    }

    private static long atScale(long units, int scale, int finer) {
        long power = power(finer - scale);
        // Where the scales differ the last digit of the sum is no 0, so that no zero can be dropped from it,
        // and units beyond 2 * LIMIT leave a sum beyond LIMIT whatever the other side is.
        if (Math.abs(units) > over(2 * LIMIT, power)) {
            throw new UnsupportedOperationException("LIMIT");
        }
        return units * power;
    }

    private void exactQuotient(Value a, Value b) {
        long divisor = Math.abs(b.units);
        long rest = wide.becomeQuotient(Math.abs(a.units), FINEST_SCALE + b.scale - a.scale, divisor);
        if (isRoundedUp(wide.low, rest, divisor)) {
            wide.increase();
        }
        wide.settle(answer, DECIMAL, haveOtherSigns(a, b), FINEST_SCALE);
    }

    private void exactWholePart(Value a, Value b) {
        int shift = b.scale - a.scale;
        // The digits that fall off the dividend can't change the whole part.
        long dividend = shift < 0 ? over(Math.abs(a.units), power(-shift)) : Math.abs(a.units);
        wide.becomeQuotient(dividend, Math.max(shift, 0), Math.abs(b.units));
        wide.settle(answer, INTEGER, haveOtherSigns(a, b), 0);
    }

    private void exactRest(Value a, Value b, int type) {
        long amount = Math.abs(a.units);
        long divisor = Math.abs(b.units);
        int shift = b.scale - a.scale;
        long rest;
        if (shift >= 0) {
            rest = wide.becomeQuotient(amount, shift, divisor);
        } else if (divisor > over(amount, power(-shift))) {
            // b is above a in amount; at the scale of a it might be too long.
            rest = amount;
        } else {
            rest = left(amount, divisor * power(-shift));
        }
        wide.become(rest);
        wide.settle(answer, type, a.units < 0, Math.max(a.scale, b.scale));
    }

    // ---- One, casting and comparing

    private static double floatingOne(int operation, double x) {
        if (operation == NEGATE) {
            return -x;
        }
        if (operation == AMOUNT) {
            return amount(x);
        }
        // From 2^52 on, and infinite ones, are whole as they are; the zeros keep their sign.
        if (x == 0 || amount(x) >= 4503599627370496.0) {
            return x;
        }
        double whole = (double) (long) amount(x);
        if (isAwayFromZero(operation, x < 0, (long) whole, amount(x) - whole)) {
            whole = whole + 1;
        }
        return x < 0 ? -whole : whole;
    }

    private static boolean isAwayFromZero(int operation, boolean negative, long whole, double rest) {
        switch (operation) {
            case NOT_ABOVE:
                return negative && rest > 0;
            case NOT_BELOW:
                return !negative && rest > 0;
            case NEAREST_GREATER:
                return rest > 0.5 || rest == 0.5 && !negative;
            default:
                return isHalfEvenUp(whole, rest);
        }
    }

    private void exactOne(int operation, Value value) {
        int type = value.type == DECIMAL ? DECIMAL : INTEGER;
        if (operation == NEGATE) {
            answer.becomeUnits(type, -value.units, value.scale);
        } else if (operation == AMOUNT) {
            answer.becomeUnits(type, Math.abs(value.units), value.scale);
        } else {
            answer.becomeUnits(type, exactRounded(operation, value.units, power(value.scale)), 0);
        }
    }

    private static long exactRounded(int operation, long units, long power) {
        switch (operation) {
            case NOT_ABOVE:
                return floor(units, power);
            case NOT_BELOW:
                return -floor(-units, power);
            case NEAREST_GREATER:
                return floor(2 * units + power, 2 * power);
            default:
                return signedHalfEven(units, power);
        }
    }

    private static long floor(long units, long divisor) {
        return divisor == 0 ? 0 : Math.floorDiv(units, divisor);
    }

    private static long signedHalfEven(long units, long divisor) {
        long rounded = overHalfEven(Math.abs(units), divisor);
        return units < 0 ? -rounded : rounded;
    }

    private void castIntoAnswer(Value value, int type) {
        if (type == DOUBLE) {
            answer.becomeFloating(type, value.asDouble());
        } else if (type == FLOAT) {
            answer.becomeFloating(type, value.asFloat());
        } else if (value.isFloating()) {
            castFloating(value.real, type);
        } else if (type == DECIMAL) {
            answer.becomeUnits(type, value.units, value.scale);
        } else {
            answer.becomeUnits(type, over(value.units, power(value.scale)), 0);
        }
        if (type > INTEGER && type < FLOAT) {
            checkFits(answer.units, type);
        }
    }

    private void castFloating(double x, int type) {
        if (isInfinite(x)) {
            throw new ArithmeticException("infinite");
        }
        long whole = wholeBelowLimit(x);
        if (type == DECIMAL && amount(x) < 1000000000.0) {
            wide.become(nearestEven(amount(x) * 1000000.0));
            wide.settle(answer, type, x < 0, FINEST_SCALE);
        } else {
            answer.becomeUnits(type, whole, 0);
        }
    }

    private static int exactOrder(Value a, Value b) {
        int byWhole = Long.compare(over(a.units, power(a.scale)), over(b.units, power(b.scale)));
        return byWhole != 0 ? byWhole : Long.compare(fraction(a), fraction(b));
    }

    /** What is behind the point, in millionths. */
    private static long fraction(Value value) {
        return left(value.units, power(value.scale)) * power(FINEST_SCALE - value.scale);
    }

    // ---- Writing

    private void writeUnits(Value value) {
        written.clear();
        if (value.units < 0) {
            written.add('-');
        }
        written.addNumber(Math.abs(value.units), value.scale);
    }

    private void writeFloating(Value value) {
        double x = value.real;
        if (isInfinite(x) || x == 0) {
            written.clear();
            written.addText(x == 0 ? isMinusZero(x) ? "-0" : "0" : x < 0 ? "-INF" : "INF");
            return;
        }
        double d = amount(x);
        digits.find(d, value.type == FLOAT);
        written.clear();
        if (x < 0) {
            written.add('-');
        }
        if (d >= 1.0 / ten(6) && d < ten(6)) {
            written.addNumber(digits.number * power(Math.max(digits.power, 0)), Math.max(-digits.power, 0));
        } else {
            writeWithPower();
        }
    }

    private void writeWithPower() {
        int last = digitCount(digits.number) - 1;
        written.add(digitAt(digits.number, last));
        written.add('.');
        if (last == 0) {
            written.add('0');
        }
        for (int place = last - 1; place >= 0; place--) {
            written.add(digitAt(digits.number, place));
        }
        written.add('E');
        int power = digits.power + last;
        if (power < 0) {
            written.add('-');
        }
        written.addNumber(Math.abs(power), 0);
    }

    /** The decimal in answer, half even, to at most so many digits behind the point. */
    private void roundAnswer(int places) {
        if (places < answer.scale) {
            long rounded = overHalfEven(Math.abs(answer.units), power(answer.scale - places));
            wide.become(rounded);
            wide.settle(answer, DECIMAL, answer.units < 0, places);
        }
    }

    private void writeAlphabet(long number, boolean great) {
        written.clear();
        // Eleven letters reach beyond LIMIT.
        for (long rest = number; rest > 0 && written.length < MOST_DIGITS; rest = (rest - 1) / 26) {
            written.add((char) ((great ? 'A' : 'a') + (rest - 1) % 26));
        }
        written.turn();
    }

    private void writeRoman(long number, boolean great) {
        written.clear();
        long rest = number;
        for (int i = 0; i < ROMAN_VALUES.length; i++) {
            for (int times = 0; times < 3 && rest >= ROMAN_VALUES[i]; times++) {
                addRomanLetter(2 * i, great);
                addRomanLetter(2 * i + 1, great);
                rest -= ROMAN_VALUES[i];
            }
        }
    }

    private void addRomanLetter(int place, boolean great) {
        char letter = place < ROMAN_LETTERS.length() ? ROMAN_LETTERS.charAt(place) : ' ';
        if (letter != ' ') {
            written.add(great ? (char) (letter - 'a' + 'A') : letter);
        }
    }

    /** What a register holds: nothing, an exact value units / 10^scale, or a floating one. */
    private static final class Value {
        private int type = NONE;
        private long units;
        private int scale;
        /** A float stands here as the double that is the same number. */
        private double real;

        private void become(Value other) {
            type = other.type;
            units = other.units;
            scale = other.scale;
            real = other.real;
        }

        private void becomeUnits(int newType, long newUnits, int newScale) {
            type = newType;
            units = newUnits;
            scale = newScale;
            real = 0.0;
        }

        private void becomeFloating(int newType, double x) {
            type = newType;
            units = 0;
            scale = 0;
            real = newType == FLOAT ? (double) (float) x : x;
        }

        private boolean isFloating() {
            return type >= FLOAT;
        }

        private boolean holdsUnits() {
            return type >= DECIMAL && type < FLOAT;
        }

        private double asDouble() {
            return isFloating() ? real : timesTen((double) units, -scale);
        }

        private float asFloat() {
            return (float) asDouble();
        }
    }

    /** A whole number not below 0 and below 10^30: high * LIMIT + low. */
    private static final class Wide {
        private long high;
        private long low;

        private void become(long number) {
            high = number / LIMIT;
            low = number % LIMIT;
        }

        /** Both below LIMIT: each is cut before its last eight digits, so that the four products stay longs. */
        private void becomeProduct(long a, long b) {
            long cut = 100000000L;
            long middle = a / cut * (b % cut) + a % cut * (b / cut);
            long bottom = a % cut * (b % cut);
            long sum = middle % 10000000L * cut + bottom % LIMIT;
            // cut * cut is ten times LIMIT, and LIMIT / cut is 10^7.
            high = a / cut * (b / cut) * 10 + middle / 10000000L + bottom / LIMIT + sum / LIMIT;
            low = sum % LIMIT;
        }

        /** Becomes the whole part of dividend * 10^shift / divisor, for a shift of 0 .. 12; answers the rest. */
        private long becomeQuotient(long dividend, int shift, long divisor) {
            become(over(dividend, divisor));
            long rest = left(dividend, divisor);
            for (int k = 0; k < shift; k++) {
                addDigit(over(rest * 10, divisor));
                rest = left(rest * 10, divisor);
            }
            return rest;
        }

        private void addDigit(long digit) {
            high = high * 10 + low / (LIMIT / 10);
            low = low % (LIMIT / 10) * 10 + digit;
        }

        private void dropDigit() {
            low = low / 10 + high % 10 * (LIMIT / 10);
            high = high / 10;
        }

        private void increase() {
            low++;
            if (low == LIMIT) {
                low = 0;
                high++;
            }
        }

        /** Drops digits off the end and rounds half even. */
        private void roundOff(int count) {
            long rest = left(low, power(count));
            for (int k = 0; k < count; k++) {
                dropDigit();
            }
            if (isRoundedUp(low, rest, power(count))) {
                increase();
            }
        }

        /** The scale that is left when zeros behind the point have been dropped. */
        private int dropZeros(int scale) {
            int rest = scale;
            while (rest > 0 && low % 10 == 0) {
                dropDigit();
                rest--;
            }
            return rest;
        }

        /** Makes this number / 10^scale, negated or not, the value of to, rounded if it needs that. */
        private void settle(Value to, int type, boolean negative, int scale) {
            int rest = dropZeros(scale);
            if (rest > FINEST_SCALE) {
                roundOff(rest - FINEST_SCALE);
                rest = dropZeros(FINEST_SCALE);
            }
            if (high != 0) {
                throw new UnsupportedOperationException("LIMIT");
            }
            to.becomeUnits(type, negative ? -low : low, rest);
        }
    }

    /** A row of characters with a length that grows up to what the row holds. */
    private static final class Row {
        private final char[] characters;
        private int length;

        private Row(int most) {
            characters = new char[Math.max(most, 0)];
        }

        private void clear() {
            length = 0;
        }

        private void add(char c) {
            if (length >= 0 && length < characters.length) {
                characters[length] = c;
                length++;
            }
        }

        private void addText(String more) {
            for (int i = 0; i < more.length(); i++) {
                add(more.charAt(i));
            }
        }

        /** number / 10^scale with all digits that the scale has behind the point. */
        private void addNumber(long number, int scale) {
            for (int place = Math.max(digitCount(number) - 1, scale); place >= 0; place--) {
                add(digitAt(number, place));
                if (place == scale && scale > 0) {
                    add('.');
                }
            }
        }

        private void addPart(Row other, int from, int end) {
            for (int i = from; i < end; i++) {
                add(other.at(i));
            }
        }

        /** Character i; the character 0, which no text has, where there is none. */
        private char at(int i) {
            return i >= 0 && i < length && i < characters.length ? characters[i] : 0;
        }

        private boolean hasDigitAt(int i) {
            return at(i) >= '0' && at(i) <= '9';
        }

        private void turn() {
            for (int i = 0, j = length - 1; i < j && j < characters.length; i++, j--) {
                char c = characters[i];
                characters[i] = characters[j];
                characters[j] = c;
            }
        }
    }

    /** The text as a number: its digits without zeros at both ends, and the power of ten that belongs to them. */
    private static final class Numeral {
        private int at;
        private int end;
        private boolean negative;
        private boolean infinite;
        /** Right up to MOST_DIGITS; beyond that only their count is. */
        private long number;
        private int numberLength;
        private int power;

        /** Whether the text is so written as the type asks. */
        private boolean parse(Row text, int type) {
            passBlanks(text);
            negative = at < end && text.at(at) == '-';
            passSign(text);
            infinite = type >= FLOAT && isInfinityWord(text);
            if (infinite) {
                return true;
            }
            boolean written = parseDigits(text, type < INTEGER || type >= FLOAT);
            if (written && type >= FLOAT && at < end) {
                written = parseExponent(text);
            }
            return written && at == end;
        }

        private void passBlanks(Row text) {
            at = 0;
            end = text.length;
            while (at < end && text.at(at) == ' ') {
                at++;
            }
            while (end > at && text.at(end - 1) == ' ') {
                end--;
            }
        }

        private void passSign(Row text) {
            if (at < end && (text.at(at) == '-' || text.at(at) == '+')) {
                at++;
            }
        }

        private boolean isInfinityWord(Row text) {
            return end - at == 3 && text.at(at) == 'I' && text.at(at + 1) == 'N' && text.at(at + 2) == 'F';
        }

        private boolean parseDigits(Row text, boolean mayHavePoint) {
            number = 0;
            numberLength = 0;
            int digits = 0;
            int lastOfNumber = 0;
            int point = -1;
            while (at < end && (text.hasDigitAt(at) || mayHavePoint && point < 0 && text.at(at) == '.')) {
                if (text.at(at) == '.') {
                    point = digits;
                } else {
                    digits++;
                    if (text.at(at) != '0') {
                        takeDigit(text.at(at) - '0', numberLength == 0 ? 1 : digits - lastOfNumber);
                        lastOfNumber = digits;
                    }
                }
                at++;
            }
            power = (point < 0 ? digits : point) - lastOfNumber;
            return digits > 0;
        }

        /** Takes a digit that is no 0, so many places behind the last such. */
        private void takeDigit(int digit, int places) {
            numberLength += places;
            if (numberLength <= MOST_DIGITS) {
                number = number * power(places) + digit;
            }
        }

        private boolean parseExponent(Row text) {
            if (text.at(at) != 'e' && text.at(at) != 'E') {
                return false;
            }
            at++;
            boolean below = at < end && text.at(at) == '-';
            passSign(text);
            int exponent = 0;
            int digits = 0;
            while (at < end && digits < 3 && text.hasDigitAt(at)) {
                exponent = exponent * 10 + (text.at(at) - '0');
                digits++;
                at++;
            }
            power += below ? -exponent : exponent;
            return digits > 0;
        }

        private double asFloating() {
            double x = 0.0;
            if (infinite) {
                x = 1.0E308 * 10.0;
            } else if (numberLength > 0) {
                if (numberLength > MOST_DIGITS || power < -22 || power > 22) {
                    throw new UnsupportedOperationException("LIMIT");
                }
                x = timesTen((double) number, power);
            }
            return negative ? -x : x;
        }

        private long units() {
            if (numberLength == 0) {
                return 0;
            }
            if (power < -FINEST_SCALE || numberLength + Math.max(power, 0) > MOST_DIGITS) {
                throw new UnsupportedOperationException("LIMIT");
            }
            long units = number * NumberForge.power(Math.max(power, 0));
            return negative ? -units : units;
        }

        private int scale() {
            return numberLength == 0 ? 0 : Math.max(-power, 0);
        }
    }

    /** The digits that a floating number is written with: number * 10^power. */
    private static final class Digits {
        private long number;
        private int power;

        /** The fewest digits that come back to d, or the most there may be. */
        private void find(double d, boolean single) {
            if (d < 1.0 / ten(8) || d >= ten(15)) {
                throw new UnsupportedOperationException("too near to 0 or too far from it to be written");
            }
            int leading = leadingPower(d);
            int most = single ? 8 : MOST_DIGITS;
            boolean found = false;
            for (int count = 1; count <= most && !found; count++) {
                power = leading - count + 1;
                number = nearestEven(timesTen(d, -power));
                double back = timesTen((double) number, power);
                found = (single ? (double) (float) back : back) == d;
            }
            dropZeros();
        }

        private static int leadingPower(double d) {
            int leading = 14;
            while (leading > -8 && timesTen(1.0, leading) > d) {
                leading--;
            }
            return leading;
        }

        private void dropZeros() {
            for (int k = 0; k < POWERS.length && number > 0 && number % 10 == 0; k++) {
                number = number / 10;
                power++;
            }
        }
    }

    /** The text as a picture. */
    private static final class Picture {
        private int headEnd;
        private int tailStart;
        private int wholeHashes;
        private int wholeZeros;
        /** How many digits stand between two commas; 0 without commas. */
        private int group;
        private int fractionZeros;
        private int fractionHashes;
        private boolean hasPercent;

        /** Whether the text is one. */
        private boolean parse(Row text) {
            headEnd = endOfHead(text);
            int at = parseWhole(text);
            fractionZeros = 0;
            fractionHashes = 0;
            if (text.at(at) == '.') {
                at++;
                fractionZeros = countOf(text, '0', at);
                fractionHashes = countOf(text, '#', at + fractionZeros);
            }
            tailStart = at + fractionZeros + fractionHashes;
            return wholeHashes + wholeZeros > 0 && haveCommasDigits(text, at) && isTail(text);
        }

        private static int endOfHead(Row text) {
            int at = 0;
            while (at < text.length && !isMark(text.at(at)) && text.at(at) != '%') {
                at++;
            }
            return at;
        }

        private static boolean isMark(char c) {
            return c == '#' || c == '0' || c == ',' || c == '.';
        }

        /** Counts the whole part; answers where it ends. */
        private int parseWhole(Row text) {
            wholeHashes = 0;
            wholeZeros = 0;
            group = 0;
            int behindComma = 0;
            boolean hasComma = false;
            int at = headEnd;
            while (at < text.length && isWholeMark(text.at(at))) {
                if (text.at(at) == ',') {
                    hasComma = true;
                    behindComma = 0;
                } else {
                    behindComma++;
                    wholeHashes += text.at(at) == '#' ? 1 : 0;
                    wholeZeros += text.at(at) == '0' ? 1 : 0;
                }
                at++;
            }
            group = hasComma ? behindComma : 0;
            return at;
        }

        /** A # may not stand behind a 0. */
        private boolean isWholeMark(char c) {
            return c == ',' || c == '0' || c == '#' && wholeZeros == 0;
        }

        private static int countOf(Row text, char mark, int from) {
            int count = 0;
            while (count < text.length && text.at(from + count) == mark) {
                count++;
            }
            return count;
        }

        /** Whether each comma of the whole part has a # or 0 on both sides. */
        private boolean haveCommasDigits(Row text, int end) {
            for (int at = headEnd; at < end; at++) {
                if (text.at(at) == ',' && !(isDigitMark(text, at - 1) && isDigitMark(text, at + 1))) {
                    return false;
                }
            }
            return true;
        }

        private static boolean isDigitMark(Row text, int at) {
            return text.at(at) == '#' || text.at(at) == '0';
        }

        private boolean isTail(Row text) {
            hasPercent = false;
            for (int at = tailStart; at < text.length; at++) {
                if (isMark(text.at(at))) {
                    return false;
                }
                hasPercent = hasPercent || text.at(at) == '%';
            }
            return true;
        }

        /** Writes a decimal that has been rounded to the places of the picture. */
        private void fill(Row text, Value decimal, Row output) {
            long amount = Math.abs(decimal.units);
            int places = Math.max(fractionZeros, decimal.scale);
            output.clear();
            if (decimal.units < 0) {
                output.add('-');
            }
            output.addPart(text, 0, headEnd);
            fillWhole(over(amount, power(decimal.scale)), places == 0, output);
            if (places > 0) {
                output.add('.');
            }
            for (int place = decimal.scale - 1; place >= decimal.scale - places; place--) {
                output.add(place < 0 ? '0' : digitAt(amount, place));
            }
            output.addPart(text, tailStart, text.length);
        }

        private void fillWhole(long whole, boolean alone, Row output) {
            int count = Math.max(whole == 0 ? 0 : digitCount(whole), wholeZeros);
            if (count == 0 && alone) {
                count = 1;
            }
            for (int place = count - 1; place >= 0; place--) {
                output.add(digitAt(whole, place));
                if (group > 0 && place > 0 && place % group == 0) {
                    output.add(',');
                }
            }
        }
    }
}
