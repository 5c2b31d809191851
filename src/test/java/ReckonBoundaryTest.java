/** Each sentence that names a boundary of reckoning, one, casting and comparing, on both sides (promises 6 to 9). */
public final class ReckonBoundaryTest extends Bench {
    private static final double BELOW_LIMIT = 999999999999999.875;
    private static final double MOST_FLOAT = Float.MAX_VALUE;

    public static void main(String[] args) {
        typesOfAnswers();
        sums();
        products();
        quotients();
        wholeParts();
        rests();
        wrapArounds();
        intoItself();
        floatingRefusals();
        floatingAnswers();
        floatingWholeParts();
        floatingRests();
        exactOnes();
        floatingOnes();
        castsToFloating();
        castsToExact();
        castsToDecimal();
        castsToBounds();
        comparing();
        end("boundaries of reckoning");
    }

    // ---- Promise 6, exact

    private static void intoItself() {
        under("6: register to holds the answer, be it a or b");
        read("7", 0, INTEGER);
        read("2", 1, INTEGER);
        due("to is a", call("reckon(1, 0, 1, 0)") + register(0) + register(1), "done1 5/01 2/0");
        due("to is b", call("reckon(1, 0, 1, 1)") + register(0) + register(1), "done1 5/01 3/0");
        due("all are one", call("reckon(2, 1, 1, 1)") + register(1), "done1 9/0");
        due("to is register 7", call("reckon(0, 0, 1, 7)") + register(7), "done1 14/0");
    }

    private static void typesOfAnswers() {
        under("6: the type that both sides come to");
        for (int a = 0; a < 10; a++) {
            for (int b = 0; b < 10; b++) {
                int sum = a == DOUBLE || b == DOUBLE ? DOUBLE : a == FLOAT || b == FLOAT ? FLOAT
                    : a >= INTEGER && b >= INTEGER ? INTEGER : DECIMAL;
                for (int operation = 0; operation < 6; operation++) {
                    int due = operation == 4 ? INTEGER : operation == 3 && sum < FLOAT ? DECIMAL : sum;
                    int value = new int[] {9, 3, 18, 2, 2, 0}[operation];
                    exactly("6", a, "3", b, operation, due + " " + (due >= FLOAT ? value + ".0" : value + "/0"));
                }
            }
        }
        under("6: as doubles (a float cast), as floats");
        exactly("0.1", FLOAT, "0.2", DOUBLE, 0, "9 " + (0.1f + 0.2));
        exactly("0.1", DECIMAL, "0.2", DOUBLE, 0, "9 " + (0.1 + 0.2));
        exactly("0.1", DECIMAL, "0.2", FLOAT, 0, "8 " + (double) (0.1f + 0.2f));
        under("6: an exact value as a float is u / TEN(s), cast to float");
        exactly("1677721.7", DECIMAL, "0", FLOAT, 0, "8 1677721.75");
        exactly("16777217", INTEGER, "0", FLOAT, 0, "8 1.6777216E7");
        exactly("16777219", INTEGER, "0", FLOAT, 0, "8 1.677722E7");
    }

    private static void sums() {
        under("6: a sum of u below 10^15");
        decimals("999999999999998", "1", 0, "0 999999999999999/0");
        decimals("999999999999999", "1", 0, LIMIT);
        decimals("-999999999999998", "-1", 0, "0 -999999999999999/0");
        decimals("-999999999999999", "-1", 0, LIMIT);
        decimals("999999999999999", "-1", 0, "0 999999999999998/0");
        decimals("999999999999999", "999999999999999", 0, LIMIT);
        decimals("999999999999999", "-999999999999999", 0, "0 0/0");
        exactly("999999999999999", POSITIVE, "1", BYTE, 0, LIMIT);
        exactly("999999999999998", POSITIVE, "1", BYTE, 0, "1 999999999999999/0");
        under("6: a difference of u below 10^15");
        decimals("-999999999999998", "1", 1, "0 -999999999999999/0");
        decimals("-999999999999999", "1", 1, LIMIT);
        decimals("999999999999998", "-1", 1, "0 999999999999999/0");
        decimals("999999999999999", "-1", 1, LIMIT);
        decimals("999999999999999", "1", 1, "0 999999999999998/0");
        decimals("0", "999999999999999", 1, "0 -999999999999999/0");
        under("6: a sum of other scales");
        decimals("999999999", "0.999999", 0, "0 999999999999999/6");
        decimals("1000000000", "0.000001", 0, LIMIT);
        decimals("1000000000", "-0.000001", 0, "0 999999999999999/6");
        decimals("0.000001", "-1000000000", 0, "0 -999999999999999/6");
        decimals("0.000001", "1000000000", 0, LIMIT);
        decimals("1000000000", "0.00001", 0, "0 100000000000001/5");
        decimals("999999999999999", "0.1", 0, LIMIT);
        decimals("999999999999999", "-0.1", 0, LIMIT);
        decimals("100000000000000", "-0.1", 0, "0 999999999999999/1");
        decimals("100000000000000", "0.1", 0, LIMIT);
        decimals("100000000000000", "-99999999999999.9", 0, "0 1/1");
        decimals("200000000000000", "-99999999999999.9", 0, LIMIT);
        decimals("199999999999999", "-99999999999999.9", 0, "0 999999999999991/1");
        decimals("999999999999999", "0.000001", 1, LIMIT);
        under("6: a sum with a scale as small as can be");
        decimals("999999999.999999", "0.000001", 0, "0 1000000000/0");
        decimals("0.5", "0.5", 0, "0 1/0");
        decimals("0.25", "0.25", 0, "0 5/1");
        decimals("0.000001", "-0.000001", 0, "0 0/0");
        decimals("99999999999999.9", "0.1", 0, "0 100000000000000/0");
        decimals("99999999999999.9", "99999999999999.9", 0, LIMIT);
        decimals("99999999999999.5", "99999999999999.5", 0, "0 199999999999999/0");
    }

    private static void products() {
        under("6: a product rounded half even to the scale 6 if it needs more");
        decimals("0.001", "0.001", 2, "0 1/6");
        decimals("0.0001", "0.001", 2, "0 0/0");
        decimals("0.000499", "0.001", 2, "0 0/0");
        decimals("0.0005", "0.001", 2, "0 0/0");
        decimals("0.000501", "0.001", 2, "0 1/6");
        decimals("0.001499", "0.001", 2, "0 1/6");
        decimals("0.0015", "0.001", 2, "0 2/6");
        decimals("0.002499", "0.001", 2, "0 2/6");
        decimals("0.0025", "0.001", 2, "0 2/6");
        decimals("0.002501", "0.001", 2, "0 3/6");
        decimals("0.0035", "0.001", 2, "0 4/6");
        decimals("-0.0005", "0.001", 2, "0 0/0");
        decimals("-0.0015", "0.001", 2, "0 -2/6");
        decimals("-0.0025", "-0.001", 2, "0 2/6");
        decimals("0.0025", "-0.001", 2, "0 -2/6");
        decimals("0.000001", "0.000001", 2, "0 0/0");
        decimals("0.000001", "0.499999", 2, "0 0/0");
        decimals("0.000001", "0.5", 2, "0 0/0");
        decimals("0.000001", "0.500001", 2, "0 1/6");
        decimals("0.000001", "1.5", 2, "0 2/6");
        decimals("0.999999", "0.999999", 2, "0 999998/6");
        decimals("1.999999", "0.5", 2, "0 1/0");
        decimals("1.999997", "0.5", 2, "0 999998/6");
        under("6: a product of u below 10^15");
        decimals("999999999999999", "1", 2, "0 999999999999999/0");
        decimals("333333333333333", "3", 2, "0 999999999999999/0");
        decimals("500000000000000", "2", 2, LIMIT);
        decimals("-500000000000000", "2", 2, LIMIT);
        decimals("33333333", "30000000", 2, "0 999999990000000/0");
        decimals("31622776", "31622776", 2, "0 999999961946176/0");
        decimals("31622777", "31622777", 2, LIMIT);
        decimals("999999999999999", "999999999999999", 2, LIMIT);
        decimals("999999999999999", "0.1", 2, "0 999999999999999/1");
        decimals("999999999999999", "0.000001", 2, "0 999999999999999/6");
        decimals("500000000000000", "0.2", 2, "0 100000000000000/0");
        decimals("-333333333.333333", "3", 2, "0 -999999999999999/6");
        decimals("33333333.333333", "30", 2, "0 99999999999999/5");
        decimals("333333333.333334", "3", 2, LIMIT);
        under("6: a product that is rounded to 10^15 millionths or less, and one that is above");
        decimals("9999.9997", "100000.003", 2, "0 999999999999999/6");
        decimals("9999.999999", "100000.00001", 2, "0 1000000000/0");
        decimals("-9999.999999", "100000.00001", 2, "0 -1000000000/0");
        decimals("10000.000001", "100000.00001", 2, "0 10000000002/1");
        decimals("33333.333333", "30000.1", 2, LIMIT);
        decimals("999999.9", "100000010.000001", 2, "0 100000000000000/0");
        decimals("0", "999999999999999", 2, "0 0/0");
    }

    private static void quotients() {
        under("6: the exact quotient rounded half even to the scale 6, a DECIMAL");
        decimals("1", "3", 3, "0 333333/6");
        decimals("2", "3", 3, "0 666667/6");
        decimals("-2", "3", 3, "0 -666667/6");
        decimals("2", "-3", 3, "0 -666667/6");
        decimals("-2", "-3", 3, "0 666667/6");
        decimals("0.000001", "2", 3, "0 0/0");
        decimals("0.000001", "1.999999", 3, "0 1/6");
        decimals("0.000001", "2.000001", 3, "0 0/0");
        decimals("0.000003", "2", 3, "0 2/6");
        decimals("0.000005", "2", 3, "0 2/6");
        decimals("0.000005", "1.999999", 3, "0 3/6");
        decimals("0.000007", "2", 3, "0 4/6");
        decimals("-0.000003", "2", 3, "0 -2/6");
        decimals("-0.000005", "2", 3, "0 -2/6");
        decimals("1", "999999999999999", 3, "0 0/0");
        decimals("1", "2000000", 3, "0 0/0");
        decimals("1", "1999999", 3, "0 1/6");
        decimals("3", "2000000", 3, "0 2/6");
        decimals("999999999999999", "999999999999999", 3, "0 1/0");
        exactly("6", INTEGER, "3", INTEGER, 3, "0 2/0");
        under("6: a quotient of u below 10^15");
        decimals("999999999999999", "1", 3, "0 999999999999999/0");
        decimals("999999999", "0.000001", 3, "0 999999999000000/0");
        decimals("999999999.999999", "0.000001", 3, "0 999999999999999/0");
        decimals("1000000000", "0.000001", 3, LIMIT);
        decimals("-1000000000", "0.000001", 3, LIMIT);
        decimals("999999999999999", "0.000001", 3, LIMIT);
        decimals("999999999999999", "2", 3, LIMIT);
        decimals("199999999999999", "2", 3, "0 999999999999995/1");
        decimals("1000000000", "3", 3, "0 333333333333333/6");
        decimals("3000000001", "3", 3, LIMIT);
        decimals("2999999999", "3", 3, "0 999999999666667/6");
        under("6: a quotient that is rounded up to a whole number");
        decimals("999999999999999", "1000000", 3, "0 999999999999999/6");
        decimals("999999999999999", "10000000", 3, "0 100000000/0");
    }

    private static void wholeParts() {
        under("6: the whole part (towards 0), an INTEGER");
        decimals("7", "2", 4, "1 3/0");
        decimals("-7", "2", 4, "1 -3/0");
        decimals("7", "-2", 4, "1 -3/0");
        decimals("-7", "-2", 4, "1 3/0");
        decimals("6", "2", 4, "1 3/0");
        decimals("5.999999", "2", 4, "1 2/0");
        decimals("6.000001", "2", 4, "1 3/0");
        decimals("6", "2.000001", 4, "1 2/0");
        decimals("1", "2", 4, "1 0/0");
        decimals("-1", "2", 4, "1 0/0");
        decimals("0", "-2", 4, "1 0/0");
        decimals("0.3", "0.1", 4, "1 3/0");
        decimals("0.000001", "999999999999999", 4, "1 0/0");
        exactly("7", BYTE, "2", POSITIVE, 4, "1 3/0");
        under("6: a whole part below 10^15");
        decimals("999999999.999999", "0.000001", 4, "1 999999999999999/0");
        decimals("1000000000", "0.000001", 4, LIMIT);
        decimals("-1000000000", "0.000001", 4, LIMIT);
        decimals("999999999999999", "1", 4, "1 999999999999999/0");
        decimals("999999999999999", "-1", 4, "1 -999999999999999/0");
        decimals("999999999999999", "0.9", 4, LIMIT);
        decimals("500000000000000", "0.5", 4, LIMIT);
        decimals("499999999999999", "0.5", 4, "1 999999999999998/0");
        decimals("299999999999999", "0.3", 4, "1 999999999999996/0");
        decimals("300000000000000", "0.3", 4, LIMIT);
        decimals("999999999999999", "0.000001", 4, LIMIT);
    }

    private static void rests() {
        under("6: what is left: a - b * (that whole part)");
        decimals("7", "2", 5, "0 1/0");
        decimals("-7", "2", 5, "0 -1/0");
        decimals("7", "-2", 5, "0 1/0");
        decimals("-7", "-2", 5, "0 -1/0");
        decimals("6", "2", 5, "0 0/0");
        decimals("-6", "2", 5, "0 0/0");
        decimals("5.999999", "2", 5, "0 1999999/6");
        decimals("6.000001", "2", 5, "0 1/6");
        decimals("6", "2.000001", 5, "0 1999998/6");
        decimals("1.5", "2", 5, "0 15/1");
        decimals("2", "2", 5, "0 0/0");
        decimals("0", "2", 5, "0 0/0");
        decimals("5.05", "2", 5, "0 105/2");
        decimals("0.3", "0.1", 5, "0 0/0");
        decimals("0.35", "0.1", 5, "0 5/2");
        decimals("0.05", "200000000000000", 5, "0 5/2");
        decimals("-0.000001", "999999999999999", 5, "0 -1/6");
        decimals("999999999.999999", "1000000000", 5, "0 999999999999999/6");
        decimals("999999999.999999", "999999999", 5, "0 999999/6");
        exactly("7", BYTE, "2", POSITIVE, 5, "1 1/0");
        exactly("7.5", DECIMAL, "2", POSITIVE, 5, "0 15/1");
        under("6: what is left also if the whole part would be LIMIT");
        decimals("999999999999999", "0.000007", 5, "0 5/6");
        decimals("-999999999999999", "0.000007", 5, "0 -5/6");
        decimals("999999999999999", "0.000001", 5, "0 0/0");
        decimals("999999999999999", "0.7", 5, "0 1/1");
        decimals("999999999999999", "0.999999", 5, "0 999/6");
        decimals("999999999999999", "999.999999", 5, "0 999000999/6");
    }

    private static void wrapArounds() {
        under("6: what 64 bits would wrap around");
        // 18446744073710 * 10^6 is 2^64 + 448384.
        decimals("18446744073710", "0.000001", 0, LIMIT);
        decimals("-0.000001", "18446744073710", 0, LIMIT);
        decimals("0.000001", "18446744073710", 1, LIMIT);
        decimals("-18446744073709", "0.000001", 1, LIMIT);
        decimals("184467440737096", "0.00001", 0, LIMIT);
        decimals("0.000001", "18446744073710", 2, "0 1844674407371/5");
        decimals("4294967296", "4294967296", 2, LIMIT);
        decimals("4294967296", "-2147483648", 2, LIMIT);
        decimals("4294.967296", "4294.967296", 2, "0 1844674407371/5");
        decimals("-3037.0005", "3037.0005", 2, "0 -9223372037/3");
        decimals("99.999999", "99.999999", 2, "0 99999998/4");
        decimals("98765432.1", "123.456789", 3, "0 80000000729/5");
        decimals("99999999", "0.000999", 3, LIMIT);
        decimals("18446744073710", "0.000001", 3, LIMIT);
        decimals("18446744073710", "0.000001", 4, LIMIT);
        decimals("12345678901234", "1.000003", 4, "1 12345641864308/0");
        decimals("12345678901234", "1.000003", 5, "0 407076/6");
        decimals("1.000001", "18446744073710", 4, "1 0/0");
        decimals("1.000001", "18446744073710", 5, "0 1000001/6");
        decimals("-1.00001", "184467440737096", 5, "0 -100001/5");
        doubles(18446744073709551616.0, 1, 4, LIMIT);
        doubles(-9223372036854775808.0, 1, 4, LIMIT);
        floats(4294967296.0, 1, 4, "1 4294967296/0");
    }

    // ---- Promise 6, floating

    /** The same with two DOUBLEs and with two FLOATs. */
    private static void both(double a, double b, int operation, Object want) {
        boolean refused = want instanceof String;
        doubles(a, b, operation, refused ? "" + want : "9 " + want);
        floats(a, b, operation, refused ? "" + want : "8 " + want);
    }

    private static void floatingRefusals() {
        under("6: 0 of two infinite ones of different signs");
        both(INFINITE, -INFINITE, 0, ARITHMETIC);
        both(-INFINITE, INFINITE, 0, ARITHMETIC);
        both(INFINITE, INFINITE, 0, INFINITE);
        both(-INFINITE, -INFINITE, 0, -INFINITE);
        both(INFINITE, -MOST_FLOAT, 0, INFINITE);
        both(MOST_FLOAT, -INFINITE, 0, -INFINITE);
        under("6: 1 of two infinite ones of the same sign");
        both(INFINITE, INFINITE, 1, ARITHMETIC);
        both(-INFINITE, -INFINITE, 1, ARITHMETIC);
        both(INFINITE, -INFINITE, 1, INFINITE);
        both(-INFINITE, INFINITE, 1, -INFINITE);
        both(INFINITE, MOST_FLOAT, 1, INFINITE);
        both(MOST_FLOAT, INFINITE, 1, -INFINITE);
        under("6: 2 of a 0 and an infinite one");
        for (double zero : new double[] {0.0, -0.0}) {
            both(zero, INFINITE, 2, ARITHMETIC);
            both(zero, -INFINITE, 2, ARITHMETIC);
            both(INFINITE, zero, 2, ARITHMETIC);
            both(-INFINITE, zero, 2, ARITHMETIC);
        }
        both(Float.MIN_VALUE, INFINITE, 2, INFINITE);
        both(-INFINITE, Float.MIN_VALUE, 2, -INFINITE);
        both(INFINITE, -INFINITE, 2, -INFINITE);
        both(-INFINITE, -INFINITE, 2, INFINITE);
        both(0.0, MOST_FLOAT, 2, 0.0);
        both(-0.0, MOST_FLOAT, 2, -0.0);
        both(0.0, 0.0, 2, 0.0);
        exactly("0", INTEGER, "INF", DOUBLE, 2, ARITHMETIC);
        exactly("0.000001", DECIMAL, "INF", DOUBLE, 2, "9 Infinity");
        under("6: 3 of two 0s or of two infinite ones");
        for (double zero : new double[] {0.0, -0.0}) {
            both(zero, 0.0, 3, ARITHMETIC);
            both(zero, -0.0, 3, ARITHMETIC);
            both(zero, INFINITE, 3, zero);
            both(INFINITE, zero, 3, 1 / zero);
            both(Float.MIN_VALUE, zero, 3, 1 / zero);
            both(-Float.MIN_VALUE, zero, 3, -1 / zero);
            both(zero, Float.MIN_VALUE, 3, zero);
        }
        for (double infinite : new double[] {INFINITE, -INFINITE}) {
            both(infinite, INFINITE, 3, ARITHMETIC);
            both(infinite, -INFINITE, 3, ARITHMETIC);
            both(infinite, MOST_FLOAT, 3, infinite);
            both(MOST_FLOAT, infinite, 3, 1 / infinite);
        }
        exactly("0", INTEGER, "0", DOUBLE, 3, ARITHMETIC);
        exactly("0", DOUBLE, "0", INTEGER, 3, ARITHMETIC);
        exactly("1.5", DOUBLE, "0", INTEGER, 3, "9 Infinity");
        exactly("-1.5", FLOAT, "0", DECIMAL, 3, "8 -Infinity");
        exactly("1", INTEGER, "-0", DOUBLE, 3, "9 -Infinity");
    }

    private static void floatingAnswers() {
        under("6: otherwise as Java does");
        double[] all = {0.0, -0.0, 0.1, -0.3, 1.0, 3.0, -7.5, 1e10, 1e30, 1e-30, MOST_FLOAT, Float.MIN_VALUE};
        for (double a : all) {
            for (double b : all) {
                float x = (float) a;
                float y = (float) b;
                doubles(a, b, 0, "9 " + (a + b));
                doubles(a, b, 1, "9 " + (a - b));
                doubles(a, b, 2, "9 " + a * b);
                floats(a, b, 0, "8 " + (double) (x + y));
                floats(a, b, 1, "8 " + (double) (x - y));
                floats(a, b, 2, "8 " + (double) (x * y));
                floatings(a, true, b, false, 0, "9 " + (x + b));
                floatings(a, false, b, true, 1, "9 " + (a - y));
                if (b != 0) {
                    doubles(a, b, 3, "9 " + a / b);
                    floats(a, b, 3, "8 " + (double) (x / y));
                }
            }
        }
        under("6: beyond the greatest and below the least");
        doubles(Double.MAX_VALUE, Double.MAX_VALUE, 0, "9 Infinity");
        doubles(-Double.MAX_VALUE, 2, 2, "9 -Infinity");
        doubles(Double.MIN_VALUE, -0.5, 2, "9 -0.0");
        doubles(Double.MAX_VALUE, 0.5, 3, "9 Infinity");
        floats(MOST_FLOAT, MOST_FLOAT, 0, "8 Infinity");
        floats(Float.MIN_VALUE, -2, 3, "8 -0.0");
    }

    private static void floatingWholeParts() {
        under("6: 4 of two 0s or of two infinite ones, b 0 or the quotient infinite");
        for (double a : new double[] {0.0, 1.0, -1.0, INFINITE, -INFINITE}) {
            both(a, 0.0, 4, ARITHMETIC);
            both(a, -0.0, 4, ARITHMETIC);
        }
        both(INFINITE, INFINITE, 4, ARITHMETIC);
        both(-INFINITE, INFINITE, 4, ARITHMETIC);
        both(INFINITE, 2.0, 4, ARITHMETIC);
        both(-INFINITE, 2.0, 4, ARITHMETIC);
        doubles(0, 2, 4, "1 0/0");
        doubles(-0.0, 2, 4, "1 0/0");
        doubles(5, INFINITE, 4, "1 0/0");
        doubles(Double.MAX_VALUE, 0.5, 4, ARITHMETIC);
        doubles(Double.MAX_VALUE, 1, 4, LIMIT);
        floats(MOST_FLOAT, 0.5, 4, ARITHMETIC);
        floats(MOST_FLOAT, 1, 4, LIMIT);
        floatings(MOST_FLOAT, true, 0.5, false, 4, LIMIT);
        exactly("7.5", DOUBLE, "0", INTEGER, 4, ARITHMETIC);
        exactly("7.5", DOUBLE, "2", INTEGER, 4, "1 3/0");
        under("6: LIMIT if the quotient is 10^15 or more in amount");
        doubles(BELOW_LIMIT, 1, 4, "1 999999999999999/0");
        doubles(-BELOW_LIMIT, 1, 4, "1 -999999999999999/0");
        doubles(1e15, 1, 4, LIMIT);
        doubles(1e15, -1, 4, LIMIT);
        floats(1e15, 1, 4, "1 999999986991104/0");
        floats(Math.nextUp((float) 1e15), 1, 4, LIMIT);
        floats(-Math.nextUp((float) 1e15), 1, 4, LIMIT);
        under("6: the whole part (towards 0) of the quotient as Java gives it");
        doubles(7.9, 2, 4, "1 3/0");
        doubles(-7.9, 2, 4, "1 -3/0");
        doubles(7.9, -2, 4, "1 -3/0");
        doubles(1.9, 2, 4, "1 0/0");
        doubles(-1.9, 2, 4, "1 0/0");
        doubles(Math.nextDown(6.0), 2, 4, "1 2/0");
        doubles(6, 2, 4, "1 3/0");
        // The quotient of these two doubles lies below 3, the nearest double is 3.
        doubles(0.06, 0.02, 4, "1 3/0");
        floats(0.21, 0.07, 4, "1 3/0");
        floatings(0.21, true, (float) 0.07, false, 4, "1 2/0");
    }

    private static void floatingRests() {
        under("6: 5 if b is 0 or a infinite");
        for (double b : new double[] {0.0, -0.0}) {
            both(1.0, b, 5, ARITHMETIC);
            both(0.0, b, 5, ARITHMETIC);
            both(INFINITE, b, 5, ARITHMETIC);
        }
        for (double b : new double[] {1.0, -2.5, INFINITE, -INFINITE}) {
            both(INFINITE, b, 5, ARITHMETIC);
            both(-INFINITE, b, 5, ARITHMETIC);
        }
        exactly("1.5", DOUBLE, "0", INTEGER, 5, ARITHMETIC);
        exactly("0", INTEGER, "INF", FLOAT, 5, "8 0.0");
        under("6: what is left as Java's %");
        double[] all = {0.0, -0.0, 1.0, -1.0, 0.1, -0.3, 2.5, 7.5, -7.5, 1e10, MOST_FLOAT, Float.MIN_VALUE, 3 * Float.MIN_VALUE};
        for (double a : all) {
            doubles(a, -INFINITE, 5, "9 " + a);
            floats(a, INFINITE, 5, "8 " + (double) (float) a);
            for (double b : all) {
                if (b != 0) {
                    doubles(a, b, 5, "9 " + a % b);
                    floats(a, b, 5, "8 " + (double) ((float) a % (float) b));
                    floatings(a, true, b, false, 5, "9 " + (float) a % b);
                }
            }
        }
        double[] far = {Double.MAX_VALUE, -Double.MAX_VALUE, Double.MIN_VALUE, 3 * Double.MIN_VALUE, Double.MIN_NORMAL, Math.nextDown(2.0), 2.0,
            Math.nextUp(2.0), 0.7, 1e300};
        for (double a : far) {
            for (double b : far) {
                doubles(a, b, 5, "9 " + a % b);
            }
        }
    }

    // ---- Promise 7

    private static void exactOnes() {
        under("7: of two as near the greater one, or the even one");
        ones("2", DECIMAL, "0 -2/0", "0 2/0", "0 2/0", "0 2/0", "0 2/0", "0 2/0");
        ones("2.000001", DECIMAL, "0 -2000001/6", "0 2000001/6", "0 2/0", "0 3/0", "0 2/0", "0 2/0");
        ones("2.499999", DECIMAL, "0 -2499999/6", "0 2499999/6", "0 2/0", "0 3/0", "0 2/0", "0 2/0");
        ones("2.5", DECIMAL, "0 -25/1", "0 25/1", "0 2/0", "0 3/0", "0 3/0", "0 2/0");
        ones("2.500001", DECIMAL, "0 -2500001/6", "0 2500001/6", "0 2/0", "0 3/0", "0 3/0", "0 3/0");
        ones("2.999999", DECIMAL, "0 -2999999/6", "0 2999999/6", "0 2/0", "0 3/0", "0 3/0", "0 3/0");
        ones("3.5", DECIMAL, "0 -35/1", "0 35/1", "0 3/0", "0 4/0", "0 4/0", "0 4/0");
        ones("0.5", DECIMAL, "0 -5/1", "0 5/1", "0 0/0", "0 1/0", "0 1/0", "0 0/0");
        ones("1.5", DECIMAL, "0 -15/1", "0 15/1", "0 1/0", "0 2/0", "0 2/0", "0 2/0");
        ones("-0.000001", DECIMAL, "0 1/6", "0 1/6", "0 -1/0", "0 0/0", "0 0/0", "0 0/0");
        ones("-0.5", DECIMAL, "0 5/1", "0 5/1", "0 -1/0", "0 0/0", "0 0/0", "0 0/0");
        ones("-0.500001", DECIMAL, "0 500001/6", "0 500001/6", "0 -1/0", "0 0/0", "0 -1/0", "0 -1/0");
        ones("-1.5", DECIMAL, "0 15/1", "0 15/1", "0 -2/0", "0 -1/0", "0 -1/0", "0 -2/0");
        ones("-2", DECIMAL, "0 2/0", "0 2/0", "0 -2/0", "0 -2/0", "0 -2/0", "0 -2/0");
        ones("-2.499999", DECIMAL, "0 2499999/6", "0 2499999/6", "0 -3/0", "0 -2/0", "0 -2/0", "0 -2/0");
        ones("-2.5", DECIMAL, "0 25/1", "0 25/1", "0 -3/0", "0 -2/0", "0 -2/0", "0 -2/0");
        ones("-2.500001", DECIMAL, "0 2500001/6", "0 2500001/6", "0 -3/0", "0 -2/0", "0 -3/0", "0 -3/0");
        ones("-9.999999", DECIMAL, "0 9999999/6", "0 9999999/6", "0 -10/0", "0 -9/0", "0 -10/0", "0 -10/0");
        ones("999999999.999999", DECIMAL, "0 -999999999999999/6", "0 999999999999999/6", "0 999999999/0", "0 1000000000/0",
            "0 1000000000/0", "0 1000000000/0");
        ones("99999999999999.5", DECIMAL, "0 -999999999999995/1", "0 999999999999995/1", "0 99999999999999/0",
            "0 100000000000000/0", "0 100000000000000/0", "0 100000000000000/0");
        ones("0", DECIMAL, "0 0/0", "0 0/0", "0 0/0", "0 0/0", "0 0/0", "0 0/0");
        under("7: the type stays, but of types 2 to 7 it becomes 1");
        for (int type = INTEGER; type <= POSITIVE; type++) {
            ones("5", type, "1 -5/0", "1 5/0", "1 5/0", "1 5/0", "1 5/0", "1 5/0");
        }
        ones("-128", BYTE, "1 128/0", "1 128/0", "1 -128/0", "1 -128/0", "1 -128/0", "1 -128/0");
        ones("-2147483648", INT, "1 2147483648/0", "1 2147483648/0", "1 -2147483648/0", "1 -2147483648/0", "1 -2147483648/0",
            "1 -2147483648/0");
        ones("-999999999999999", INTEGER, "1 999999999999999/0", "1 999999999999999/0", "1 -999999999999999/0",
            "1 -999999999999999/0", "1 -999999999999999/0", "1 -999999999999999/0");
        under("7: register to holds the answer");
        read("-5", 7, BYTE);
        due("to is a", call("one(1, 7, 7)") + register(7), "done1 5/0");
        due("to is another", call("one(0, 7, 0)") + register(0) + register(7), "done1 -5/01 5/0");
    }

    /** The same with a DOUBLE and with a FLOAT; the answers are those of 0, 1, 2, 3, 4, 5. */
    private static void onesOfBoth(double x, double... wants) {
        onesOfDouble(x, false, wants);
        onesOfDouble(x, true, wants);
    }

    private static void floatingOnes() {
        under("7: floating, of two as near the greater one, or the even one");
        onesOfBoth(2.0, -2.0, 2.0, 2.0, 2.0, 2.0, 2.0);
        onesOfBoth(-2.0, 2.0, 2.0, -2.0, -2.0, -2.0, -2.0);
        onesOfBoth(3.0, -3.0, 3.0, 3.0, 3.0, 3.0, 3.0);
        onesOfBoth(-3.0, 3.0, 3.0, -3.0, -3.0, -3.0, -3.0);
        onesOfBoth(2.25, -2.25, 2.25, 2.0, 3.0, 2.0, 2.0);
        onesOfBoth(2.5, -2.5, 2.5, 2.0, 3.0, 3.0, 2.0);
        onesOfBoth(2.75, -2.75, 2.75, 2.0, 3.0, 3.0, 3.0);
        onesOfBoth(1.5, -1.5, 1.5, 1.0, 2.0, 2.0, 2.0);
        onesOfBoth(-1.5, 1.5, 1.5, -2.0, -1.0, -1.0, -2.0);
        onesOfBoth(-2.25, 2.25, 2.25, -3.0, -2.0, -2.0, -2.0);
        onesOfBoth(-2.5, 2.5, 2.5, -3.0, -2.0, -2.0, -2.0);
        onesOfBoth(-2.75, 2.75, 2.75, -3.0, -2.0, -3.0, -3.0);
        double below = Math.nextDown(0.5);
        double above = Math.nextUp(0.5);
        onesOfDouble(below, false, -below, below, 0.0, 1.0, 0.0, 0.0);
        onesOfDouble(above, false, -above, above, 0.0, 1.0, 1.0, 1.0);
        onesOfDouble(-below, false, below, below, -1.0, -0.0, -0.0, -0.0);
        onesOfDouble(-above, false, above, above, -1.0, -0.0, -1.0, -1.0);
        double single = Math.nextDown(0.5f);
        onesOfDouble(single, true, -single, single, 0.0, 1.0, 0.0, 0.0);
        under("7: a 0 that comes out has the sign of a; 0 and 1 turn and take away the sign of 0, too");
        onesOfBoth(0.0, -0.0, 0.0, 0.0, 0.0, 0.0, 0.0);
        onesOfBoth(-0.0, 0.0, 0.0, -0.0, -0.0, -0.0, -0.0);
        onesOfBoth(0.5, -0.5, 0.5, 0.0, 1.0, 1.0, 0.0);
        onesOfBoth(-0.5, 0.5, 0.5, -1.0, -0.0, -0.0, -0.0);
        onesOfBoth(0.25, -0.25, 0.25, 0.0, 1.0, 0.0, 0.0);
        onesOfBoth(-0.25, 0.25, 0.25, -1.0, -0.0, -0.0, -0.0);
        onesOfDouble(Double.MIN_VALUE, false, -Double.MIN_VALUE, Double.MIN_VALUE, 0.0, 1.0, 0.0, 0.0);
        onesOfDouble(-Double.MIN_VALUE, false, Double.MIN_VALUE, Double.MIN_VALUE, -1.0, -0.0, -0.0, -0.0);
        under("7: infinite ones stay; 0 and 1 turn and take away their sign");
        onesOfBoth(INFINITE, -INFINITE, INFINITE, INFINITE, INFINITE, INFINITE, INFINITE);
        onesOfBoth(-INFINITE, INFINITE, INFINITE, -INFINITE, -INFINITE, -INFINITE, -INFINITE);
        under("7: those of amount 4503599627370496 or more stay");
        double whole = 4503599627370496.0;
        double half = whole - 0.5;
        onesOfDouble(half, false, -half, half, whole - 1, whole, whole, whole);
        onesOfDouble(-half, false, half, half, -whole, 1 - whole, 1 - whole, -whole);
        onesOfDouble(half - 1, false, 1 - half, half - 1, whole - 2, whole - 1, whole - 1, whole - 2);
        for (double x : new double[] {whole, whole + 1, 2 * whole + 2, 1e300, Double.MAX_VALUE}) {
            onesOfDouble(x, false, -x, x, x, x, x, x);
            onesOfDouble(-x, false, x, x, -x, -x, -x, -x);
        }
        under("7: for floats 8388608");
        onesOfDouble(8388607.5, true, -8388607.5, 8388607.5, 8388607.0, 8388608.0, 8388608.0, 8388608.0);
        onesOfDouble(-8388607.5, true, 8388607.5, 8388607.5, -8388608.0, -8388607.0, -8388607.0, -8388608.0);
        onesOfDouble(8388606.5, true, -8388606.5, 8388606.5, 8388606.0, 8388607.0, 8388607.0, 8388606.0);
        for (double x : new double[] {8388608.0, 8388609.0, 16777218.0, MOST_FLOAT}) {
            onesOfDouble(x, true, -x, x, x, x, x, x);
        }
    }

    // ---- Promise 8

    private static void castsToFloating() {
        under("8: from floating to another floating one as Java does");
        castsDouble(0.1, DOUBLE, "9 0.1");
        castsDouble(0.1, FLOAT, "8 " + (double) 0.1f);
        castsFloating(0.1, true, DOUBLE, "9 " + (double) 0.1f);
        castsFloating(0.1, true, FLOAT, "8 " + (double) 0.1f);
        double half = MOST_FLOAT + Math.ulp((float) MOST_FLOAT) / 2.0;
        castsDouble(Math.nextDown(half), FLOAT, "8 " + MOST_FLOAT);
        castsDouble(half, FLOAT, "8 Infinity");
        castsDouble(-half, FLOAT, "8 -Infinity");
        castsDouble(-Double.MIN_VALUE, FLOAT, "8 -0.0");
        for (int type = FLOAT; type <= DOUBLE; type++) {
            for (double x : new double[] {0.0, -0.0, INFINITE, -INFINITE, -1.5}) {
                castsDouble(x, type, type + " " + x);
                castsFloating(x, true, type, type + " " + x);
            }
        }
        under("8: from exact to floating as said");
        casts("0.1", DECIMAL, DOUBLE, "9 0.1");
        casts("0.1", DECIMAL, FLOAT, "8 " + (double) 0.1f);
        casts("0", DECIMAL, DOUBLE, "9 0.0");
        casts("-5", BYTE, FLOAT, "8 -5.0");
        casts("1677721.7", DECIMAL, FLOAT, "8 1677721.75");
        casts("16777217", INTEGER, FLOAT, "8 1.6777216E7");
        casts("999999999999999", INTEGER, DOUBLE, "9 9.99999999999999E14");
        casts("-0.000001", DECIMAL, DOUBLE, "9 " + -1 / 1e6);
        casts("123456789.123457", DECIMAL, DOUBLE, "9 " + 123456789123457.0 / 1e6);
    }

    private static void castsToExact() {
        under("8: infinite ones are ArithmeticException, an amount of 10^15 or more is LIMIT");
        String most = "999999999999999/0";
        for (int type = DECIMAL; type <= POSITIVE; type++) {
            castsDouble(INFINITE, type, ARITHMETIC);
            castsDouble(-INFINITE, type, ARITHMETIC);
            castsFloating(INFINITE, true, type, ARITHMETIC);
            castsFloating(-INFINITE, true, type, ARITHMETIC);
            castsDouble(1e15, type, LIMIT);
            castsDouble(-1e15, type, LIMIT);
            castsDouble(Double.MAX_VALUE, type, LIMIT);
            castsDouble(9223372036854775808.0, type, LIMIT);
            castsDouble(18446744073709551616.0, type, LIMIT);
            castsFloating(Math.nextUp((float) 1e15), true, type, LIMIT);
            castsFloating(-Math.nextUp((float) 1e15), true, type, LIMIT);
            boolean narrow = type >= INT && type <= UNSIGNED_BYTE;
            castsDouble(BELOW_LIMIT, type, narrow ? ARGUMENT : type + " " + most);
            castsDouble(-BELOW_LIMIT, type, type > INTEGER ? ARGUMENT : type + " -" + most);
            castsFloating(1e15, true, type, narrow ? ARGUMENT : type + " 999999986991104/0");
        }
        under("8: to types 1 to 7 its whole part (towards 0)");
        for (int type = INTEGER; type <= POSITIVE; type++) {
            casts("1.999999", DECIMAL, type, type + " 1/0");
            castsDouble(Math.nextDown(2.0), type, type + " 1/0");
            castsFloating(Math.nextDown(2.0f), true, type, type + " 1/0");
            casts("2", DECIMAL, type, type + " 2/0");
        }
        for (int type = INTEGER; type <= BYTE; type++) {
            casts("-1.999999", DECIMAL, type, type + " -1/0");
            castsDouble(Math.nextUp(-2.0), type, type + " -1/0");
            casts("-0.999999", DECIMAL, type, type + " 0/0");
            castsDouble(-0.0, type, type + " 0/0");
        }
        under("8: the exact value stays");
        for (int from = DECIMAL; from <= POSITIVE; from++) {
            for (int to = DECIMAL; to <= POSITIVE; to++) {
                casts("7", from, to, to + " 7/0");
            }
        }
        casts("-12.75", DECIMAL, DECIMAL, "0 -1275/2");
        read("12.5", 0, DECIMAL);
        due("to is a", call("cast(0, 1, 0)") + register(0), "done1 12/0");
        due("to is register 7", call("cast(0, 9, 7)") + register(0) + register(7), "done1 12/09 12.0");
    }

    private static void castsToDecimal() {
        under("8: to DECIMAL, if its amount is below 10^9, the double times 1000000, HALF EVEN to a whole number");
        castsDouble(0.0000004, DECIMAL, "0 0/0");
        castsDouble(0.0000005, DECIMAL, "0 0/0");
        castsDouble(0.000000500001, DECIMAL, "0 1/6");
        castsDouble(0.0000015, DECIMAL, "0 2/6");
        castsDouble(-0.0000005, DECIMAL, "0 0/0");
        castsDouble(-0.0000015, DECIMAL, "0 -2/6");
        castsDouble(0.0078125, DECIMAL, "0 7812/6");
        castsDouble(0.0234375, DECIMAL, "0 23438/6");
        castsDouble(-0.0078125, DECIMAL, "0 -7812/6");
        castsDouble(-0.0234375, DECIMAL, "0 -23438/6");
        // These doubles are not half way; their products with 1000000 are.
        castsDouble(0.0000025, DECIMAL, "0 2/6");
        castsDouble(0.0000035, DECIMAL, "0 4/6");
        castsDouble(0.0000045, DECIMAL, "0 4/6");
        castsDouble(0.0000055, DECIMAL, "0 6/6");
        castsDouble(-0.0, DECIMAL, "0 0/0");
        castsDouble(12.5, DECIMAL, "0 125/1");
        castsDouble(Double.MIN_VALUE, DECIMAL, "0 0/0");
        castsFloating(0.1, true, DECIMAL, "0 1/1");
        // As floats the product would be 100000024.
        castsFloating(100.000023, true, DECIMAL, "0 100000023/6");
        under("8: else its whole part");
        castsDouble(999999999.5, DECIMAL, "0 9999999995/1");
        castsDouble(Math.nextDown(1e9), DECIMAL, "0 1000000000/0");
        castsDouble(1e9, DECIMAL, "0 1000000000/0");
        castsDouble(1000000000.75, DECIMAL, "0 1000000000/0");
        castsDouble(-999999999.75, DECIMAL, "0 -99999999975/2");
        castsDouble(-1e9, DECIMAL, "0 -1000000000/0");
        castsDouble(-1000000000.75, DECIMAL, "0 -1000000000/0");
        castsDouble(BELOW_LIMIT, DECIMAL, "0 999999999999999/0");
    }

    private static void castsToBounds() {
        under("8: for the types 2 to 7, IllegalArgumentException if the whole part does not fit");
        casts("2147483647.9999", DECIMAL, INT, "2 2147483647/0");
        casts("-2147483648.9999", DECIMAL, INT, "2 -2147483648/0");
        casts("32767.999999", DECIMAL, SHORT, "3 32767/0");
        casts("-32768.999999", DECIMAL, SHORT, "3 -32768/0");
        casts("127.999999", DECIMAL, BYTE, "4 127/0");
        casts("-128.999999", DECIMAL, BYTE, "4 -128/0");
        casts("255.999999", DECIMAL, UNSIGNED_BYTE, "5 255/0");
        casts("-0.999999", DECIMAL, UNSIGNED_BYTE, "5 0/0");
        casts("-0.999999", DECIMAL, NOT_NEGATIVE, "6 0/0");
        casts("1.000001", DECIMAL, POSITIVE, "7 1/0");
        casts("0.999999", DECIMAL, POSITIVE, ARGUMENT);
        castsDouble(Math.nextDown(2147483648.0), INT, "2 2147483647/0");
        castsDouble(2147483648.0, INT, ARGUMENT);
        castsDouble(Math.nextUp(-2147483649.0), INT, "2 -2147483648/0");
        castsDouble(-2147483649.0, INT, ARGUMENT);
        castsDouble(Math.nextDown(32768.0), SHORT, "3 32767/0");
        castsDouble(32768.0, SHORT, ARGUMENT);
        castsDouble(Math.nextUp(-32769.0), SHORT, "3 -32768/0");
        castsDouble(-32769.0, SHORT, ARGUMENT);
        castsDouble(Math.nextDown(128.0), BYTE, "4 127/0");
        castsDouble(128.0, BYTE, ARGUMENT);
        castsDouble(Math.nextUp(-129.0), BYTE, "4 -128/0");
        castsDouble(-129.0, BYTE, ARGUMENT);
        castsDouble(Math.nextDown(256.0), UNSIGNED_BYTE, "5 255/0");
        castsDouble(256.0, UNSIGNED_BYTE, ARGUMENT);
        castsDouble(Math.nextUp(-1.0), UNSIGNED_BYTE, "5 0/0");
        castsDouble(-1.0, UNSIGNED_BYTE, ARGUMENT);
        castsDouble(Math.nextUp(-1.0), NOT_NEGATIVE, "6 0/0");
        castsDouble(-1.0, NOT_NEGATIVE, ARGUMENT);
        castsDouble(1.0, POSITIVE, "7 1/0");
        castsDouble(Math.nextDown(1.0), POSITIVE, ARGUMENT);
        casts("4294967296", INTEGER, INT, ARGUMENT);
        casts("4294967296", DOUBLE, BYTE, ARGUMENT);
    }

    // ---- Promise 9

    private static void comparing() {
        under("9: exact ones: below, equal, above");
        compares("1", INTEGER, "2", BYTE, -1);
        compares("2", POSITIVE, "2", SHORT, 0);
        compares("-1", INTEGER, "1", INTEGER, -1);
        compares("-2", INTEGER, "-1", INTEGER, -1);
        compares("999999999999998", INTEGER, "999999999999999", DECIMAL, -1);
        compares("-999999999999999", INTEGER, "999999999999999", INTEGER, -1);
        compares("0.1", DECIMAL, "0.100000", DECIMAL, 0);
        compares("0.1", DECIMAL, "0.100001", DECIMAL, -1);
        compares("-0.1", DECIMAL, "-0.100001", DECIMAL, 1);
        compares("-0.1", DECIMAL, "0.1", DECIMAL, -1);
        compares("-0.000001", DECIMAL, "0", INTEGER, -1);
        compares("0.000001", DECIMAL, "0", INTEGER, 1);
        compares("0.9", DECIMAL, "0.11", DECIMAL, 1);
        compares("-0.9", DECIMAL, "-0.11", DECIMAL, -1);
        compares("1.2", DECIMAL, "1.123456", DECIMAL, 1);
        compares("1.2", DECIMAL, "1.200001", DECIMAL, -1);
        compares("1.999999", DECIMAL, "2", INT, -1);
        compares("2.000001", DECIMAL, "2", INT, 1);
        compares("-1.5", DECIMAL, "-1", INTEGER, -1);
        compares("999999999999999", DECIMAL, "0.000001", DECIMAL, 1);
        compares("99999999999999.9", DECIMAL, "100000000000000", DECIMAL, -1);
        under("9: 0 and -0 are equal");
        for (int type = FLOAT; type <= DOUBLE; type++) {
            compares("0", type, "-0", type, 0);
            compares("-0", type, "0", INTEGER, 0);
            compares("-0", type, "0.000001", DECIMAL, -1);
            compares("-0", type, "-0.000001", DECIMAL, 1);
            compares("INF", type, "INF", DOUBLE, 0);
            compares("-INF", type, "-INF", FLOAT, 0);
            compares("-INF", type, "INF", FLOAT, -1);
            compares("INF", type, "999999999999999", INTEGER, 1);
            compares("-INF", type, "-999999999999999", INTEGER, -1);
        }
        under("9: as doubles if one is a DOUBLE, else as floats if one is a FLOAT");
        compares("0.1", FLOAT, "0.1", DOUBLE, 1);
        compares("0.1", FLOAT, "0.1", DECIMAL, 0);
        compares("0.1", DOUBLE, "0.1", DECIMAL, 0);
        compares("16777217", INTEGER, "16777216", FLOAT, 0);
        compares("16777217", INTEGER, "16777216", DOUBLE, 1);
        compares("16777218", INTEGER, "16777216", FLOAT, 1);
        compares("1677721.7", DECIMAL, "1677721.75", FLOAT, 0);
        compares("1677721.7", DECIMAL, "1677721.75", DOUBLE, -1);
        due("one with itself", call("compare(0, 0)"), "0");
    }
}
