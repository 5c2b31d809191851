/** Examples for each promise of the document: ordinary inputs, the edges that it names, and wrong inputs. */
public final class PromiseTest extends Bench {
    public static void main(String[] args) {
        promise(1);
        newObject();
        promise(2);
        type();
        promise(3);
        wipe();
        promise(4);
        readExact();
        readFloating();
        readRefuses();
        promise(5);
        put();
        promise(6);
        reckonTypes();
        reckonExact();
        reckonExactLimits();
        reckonDoubles();
        reckonFloats();
        reckonRefuses();
        promise(7);
        oneExact();
        oneFloating();
        oneRefuses();
        promise(8);
        castAll();
        castRefuses();
        promise(9);
        compare();
        promise(10);
        kind();
        promise(11);
        real();
        promise(12);
        exact();
        promise(13);
        write();
        promise(14);
        picture();
        pictureRefuses();
        promise(15);
        letters();
        promise(16);
        output();
        end("promises");
    }

    private static void promise(int number) {
        under("promise " + number);
    }

    // ---- The promises

    private static void newObject() {
        for (int r = 0; r < 8; r++) {
            due("register " + r, register(r), "empty");
        }
        due("output", forge.output(-1), 0);
        due("output", forge.output(0), -1);
        due("reading the empty text", call("read(0, 0)"), ARGUMENT);
        due("NONE", NumberForge.NONE, -1);
    }

    private static void type() {
        due("three bytes with zeros between", forge.type(0x3100320000000033L), true);
        due("no byte", forge.type(0), true);
        forge.read(0, 1);
        due("the text in its order", register(0), "1 123/0");
        due("a byte below 32", forge.type(0x3131001FL), false);
        due("the byte 127", forge.type(0x7F31L), false);
        due("a byte above 127", forge.type(0x8031313131313131L), false);
        due("nothing was added by those", call("read(0, 1)"), ARGUMENT);
        due("32 and 126", forge.type(0x207EL), true);
        forge.wipe();
        for (int i = 0; i < 5; i++) {
            due("to 40", forge.type(bytes(i == 4 ? "0000007" : "00000000")), true);
        }
        due("41", forge.type(bytes("11")), false);
        due("40", forge.type(bytes("1")), true);
        due("nothing more", forge.type(bytes("1")), false);
        due("no byte still", forge.type(0), true);
        forge.read(0, 1);
        due("all 40", register(0), "1 71/0");
    }

    private static void wipe() {
        forge.type(bytes("77"));
        forge.wipe();
        forge.type(bytes("5"));
        forge.read(0, 1);
        due("only what came after", register(0), "1 5/0");
        forge.write(0);
        forge.wipe();
        due("the output stays", forge.output(0), (int) '5');
        due("the register stays", register(0), "1 5/0");
    }

    private static void readExact() {
        reads("  -12.50 ", DECIMAL, "0 -125/1");
        reads("+007", INTEGER, "1 7/0");
        reads("5.", DECIMAL, "0 5/0");
        reads(".5", DECIMAL, "0 5/1");
        reads("100", DECIMAL, "0 100/0");
        reads("-0.000", DECIMAL, "0 0/0");
        reads("0.0000010000", DECIMAL, "0 1/6");
        reads("000000000000000000999999999.999999", DECIMAL, "0 999999999999999/6");
        reads("2147483647", INT, "2 2147483647/0");
        reads("-32768", 3, "3 -32768/0");
        reads("127", BYTE, "4 127/0");
        reads("-128", BYTE, "4 -128/0");
        reads("255", 5, "5 255/0");
        reads("-0", 5, "5 0/0");
        reads("0", 6, "6 0/0");
        reads("1", 7, "7 1/0");
        reads("999999999999999", 7, "7 999999999999999/0");
        reads("-999999999999999", INTEGER, "1 -999999999999999/0");
        due("the text is empty then", forge.type(bytes("1")), true);
        forge.read(3, 1);
        due("the text is empty then", register(3), "1 1/0");
    }

    private static void readFloating() {
        reads("0.1", DOUBLE, "9 0.1");
        reads("0.1", FLOAT, "8 0.10000000149011612");
        reads("INF", DOUBLE, "9 Infinity");
        reads(" +INF ", FLOAT, "8 Infinity");
        reads("-INF", DOUBLE, "9 -Infinity");
        reads("-0", DOUBLE, "9 -0.0");
        reads("-0.00e-999", FLOAT, "8 -0.0");
        reads("0e999", DOUBLE, "9 0.0");
        reads("1.5E3", DOUBLE, "9 1500.0");
        reads(".5e+1", DOUBLE, "9 5.0");
        reads("5.e-001", DOUBLE, "9 0.5");
        reads("1e22", DOUBLE, "9 1.0E22");
        reads("1e23", DOUBLE, LIMIT);
        reads("10e22", DOUBLE, LIMIT);
        reads("0.01e25", DOUBLE, LIMIT);
        reads("1000e19", DOUBLE, "9 1.0E22");
        reads("1e-22", DOUBLE, "9 1.0E-22");
        reads("0.1e-22", DOUBLE, LIMIT);
        reads("999999999999999e22", DOUBLE, "9 " + 999999999999999.0 * 1e22);
        reads("123456789012345e-22", DOUBLE, "9 " + 123456789012345.0 / 1e22);
        reads("1234567890123456", DOUBLE, LIMIT);
        reads("1000000000000000", DOUBLE, "9 1.0E15");
        reads("0.0000001", DOUBLE, "9 1.0E-7");
    }

    private static void readRefuses() {
        reads("7", INTEGER, "1 7/0");
        String[] unwritten = {"", "   ", "+", "-", ".", "-.", "--1", "+-1", "1 2", "- 1", "1e2", "1.2.3", "..5", "..", "x", "1x", "INF"};
        for (String s : unwritten) {
            reads(s, DECIMAL, ARGUMENT);
        }
        reads("1.", INTEGER, ARGUMENT);
        reads("12345678901234567890x", INTEGER, ARGUMENT);
        String[] unfloated = {"", "inf", "INFINITY", "INFE1", "1e", "1e+", "e5", ".e5", "1e1234", "1e0x", "1e 2", "NaN", "--INF"};
        for (String s : unfloated) {
            reads(s, DOUBLE, ARGUMENT);
        }
        reads("2147483648", INT, ARGUMENT);
        reads("-2147483649", INT, ARGUMENT);
        reads("32768", 3, ARGUMENT);
        reads("-32769", 3, ARGUMENT);
        reads("128", BYTE, ARGUMENT);
        reads("-129", BYTE, ARGUMENT);
        reads("256", 5, ARGUMENT);
        reads("-1", 5, ARGUMENT);
        reads("-1", 6, ARGUMENT);
        reads("0", 7, ARGUMENT);
        reads("1000000000000000", BYTE, LIMIT);
        reads("-1000000000000000", 6, LIMIT);
        reads("1000000000000000", DECIMAL, LIMIT);
        reads("1000000000.000001", DECIMAL, LIMIT);
        reads("0.0000001", DECIMAL, LIMIT);
        due("no register", read("4", 8, 1), INDEX);
        due("no register", read("4", -1, 1), INDEX);
        due("no type", read("4", 3, 10), INDEX);
        due("no type", read("x", 3, -1), INDEX);
        text("4");
        due("no type", call("read(3, 10)"), INDEX);
        forge.type(bytes("2"));
        forge.read(3, 1);
        due("the text stays by an exception", register(3), "1 42/0");
    }

    private static void put() {
        forge.put(0, 0.1, false);
        due("a double", register(0), "9 0.1");
        forge.put(7, 0.1, true);
        due("a float", register(7), "8 " + (double) 0.1f);
        forge.put(1, 1e39, true);
        due("beyond the floats", register(1), "8 Infinity");
        forge.put(1, -1e-50, true);
        due("below the floats", register(1), "8 -0.0");
        forge.put(2, -0.0, false);
        due("-0", register(2), "9 -0.0");
        for (int r : new int[] {-1, 8, Integer.MIN_VALUE}) {
            due("no register", calling("put", r, 1, false), INDEX);
        }
    }

    private static void reckonTypes() {
        exactly("1", INT, "2", BYTE, 0, "1 3/0");
        exactly("1", INT, "2", DECIMAL, 0, "0 3/0");
        exactly("6", INTEGER, "3", INTEGER, 3, "0 2/0");
        exactly("7.5", DECIMAL, "2", INTEGER, 4, "1 3/0");
        exactly("7", 7, "2", 5, 5, "1 1/0");
        exactly("7", 7, "2", DECIMAL, 5, "0 1/0");
        exactly("0.1", DECIMAL, "0.2", DOUBLE, 0, "9 " + (0.1 + 0.2));
        exactly("0.1", DECIMAL, "0.2", FLOAT, 0, "8 " + (double) (0.1f + 0.2f));
        exactly("0.1", FLOAT, "0.2", DOUBLE, 0, "9 " + (0.1f + 0.2));
        exactly("7.5", FLOAT, "2", INTEGER, 4, "1 3/0");
        exactly("16777217", INTEGER, "0", FLOAT, 0, "8 1.6777216E7");
    }

    private static void reckonExact() {
        decimals("-12.5", "7", 0, "0 -55/1");
        decimals("-12.5", "7", 1, "0 -195/1");
        decimals("-12.5", "7", 2, "0 -875/1");
        decimals("-12.5", "7", 3, "0 -1785714/6");
        decimals("-12.5", "7", 4, "1 -1/0");
        decimals("-12.5", "7", 5, "0 -55/1");
        decimals("12.5", "-7", 5, "0 55/1");
        decimals("0.5", "0.5", 0, "0 1/0");
        decimals("0.000001", "-0.000001", 0, "0 0/0");
        decimals("0.001", "0.0005", 2, "0 0/0");
        decimals("0.001", "0.0015", 2, "0 2/6");
        decimals("0.001", "-0.0025", 2, "0 -2/6");
        decimals("0.001", "0.00251", 2, "0 3/6");
        decimals("99.999999", "99.999999", 2, "0 99999998/4");
        decimals("1234.567891", "-2345.678912", 2, "0 -2895899867351/6");
        decimals("12.345679", "98765.432198", 2, "0 1219326322213/6");
        decimals("1", "3", 3, "0 333333/6");
        decimals("2", "3", 3, "0 666667/6");
        decimals("0.000001", "2", 3, "0 0/0");
        decimals("0.000003", "2", 3, "0 2/6");
        decimals("-0.000005", "2", 3, "0 -2/6");
        decimals("999999999999999", "999999999999999", 3, "0 1/0");
        decimals("0.000001", "0.000001", 4, "1 1/0");
        decimals("5", "0.3", 5, "0 2/1");
        decimals("5.05", "2", 5, "0 105/2");
        decimals("0.05", "200000000000000", 5, "0 5/2");
        decimals("0", "5", 3, "0 0/0");
        decimals("0", "-5", 5, "0 0/0");
    }

    private static void reckonExactLimits() {
        decimals("999999999999999", "1", 0, LIMIT);
        decimals("-999999999999999", "1", 0, "0 -999999999999998/0");
        decimals("-999999999999999", "1", 1, LIMIT);
        decimals("99999999999999.9", "0.1", 0, "0 100000000000000/0");
        decimals("999999999999999", "0.000001", 0, LIMIT);
        decimals("100000000000000", "-0.1", 0, "0 999999999999999/1");
        decimals("200000000000000", "-0.1", 0, LIMIT);
        decimals("1000000000", "0.000001", 1, "0 999999999999999/6");
        decimals("500000000000000", "0.2", 2, "0 100000000000000/0");
        decimals("500000000000000", "2", 2, LIMIT);
        decimals("31622777", "31622777", 2, LIMIT);
        decimals("31622776", "31622776", 2, "0 999999961946176/0");
        decimals("999999.9", "100000010.000001", 2, "0 100000000000000/0");
        decimals("123456.789", "987654.321", 2, LIMIT);
        decimals("1", "0.000001", 3, "0 1000000/0");
        decimals("999999999", "0.000001", 3, "0 999999999000000/0");
        decimals("1000000000", "0.000001", 3, LIMIT);
        decimals("1000000000", "0.000001", 4, LIMIT);
        decimals("999999999999999", "0.000007", 5, "0 5/6");
        decimals("10000000000", "3", 3, LIMIT);
        decimals("1000000000", "3", 3, "0 333333333333333/6");
    }

    private static void reckonDoubles() {
        doubles(0.1, 0.2, 0, "9 0.30000000000000004");
        doubles(0.3, 0.1, 1, "9 " + (0.3 - 0.1));
        doubles(1e300, 1e300, 2, "9 Infinity");
        doubles(1, 0, 3, "9 Infinity");
        doubles(1, -0.0, 3, "9 -Infinity");
        doubles(7.5, 2, 5, "9 1.5");
        doubles(-7.5, 2, 5, "9 -1.5");
        doubles(7.5, -2, 5, "9 1.5");
        doubles(-6, 2, 5, "9 -0.0");
        doubles(-0.0, 2, 5, "9 -0.0");
        doubles(5, INFINITE, 5, "9 5.0");
        doubles(1e300, 0.7, 5, "9 " + 1e300 % 0.7);
        doubles(Double.MAX_VALUE, Double.MIN_VALUE * 3, 5, "9 " + Double.MAX_VALUE % (Double.MIN_VALUE * 3));
        doubles(INFINITE, 1, 0, "9 Infinity");
        doubles(INFINITE, -INFINITE, 1, "9 Infinity");
        doubles(5, INFINITE, 3, "9 0.0");
        doubles(-7.9, 2, 4, "1 -3/0");
        doubles(5, INFINITE, 4, "1 0/0");
        doubles(999999999999999.0, 1, 4, "1 999999999999999/0");
    }

    private static void reckonFloats() {
        floatings(0.1, true, 0.2, true, 0, "8 " + (double) (0.1f + 0.2f));
        floatings(0.3, true, 0.1, true, 1, "8 " + (double) (0.3f - 0.1f));
        floatings(0.1, true, 0.1, true, 2, "8 " + (double) (0.1f * 0.1f));
        floatings(1, true, 3, true, 3, "8 " + (double) (1f / 3f));
        floatings(1, true, 3, false, 3, "9 " + 1.0 / 3.0);
        floatings(1e38, true, 10, true, 2, "8 Infinity");
        floatings(1e38, true, 0.3, true, 5, "8 " + (double) (1e38f % 0.3f));
        floatings(16777216, true, 0.1, true, 4, "1 " + (long) (16777216f / 0.1f) + "/0");
    }

    private static void reckonRefuses() {
        forge = new NumberForge();
        doubles(3, 4, 0, "9 7.0");
        doubles(INFINITE, -INFINITE, 0, ARITHMETIC);
        doubles(INFINITE, INFINITE, 1, ARITHMETIC);
        doubles(0, -INFINITE, 2, ARITHMETIC);
        doubles(INFINITE, -0.0, 2, ARITHMETIC);
        doubles(0, -0.0, 3, ARITHMETIC);
        doubles(-INFINITE, INFINITE, 3, ARITHMETIC);
        doubles(INFINITE, INFINITE, 4, ARITHMETIC);
        doubles(1, 0, 4, ARITHMETIC);
        doubles(INFINITE, 2, 4, ARITHMETIC);
        doubles(1e300, 1e-300, 4, ARITHMETIC);
        doubles(1e15, 1, 4, LIMIT);
        doubles(1, 0, 5, ARITHMETIC);
        doubles(INFINITE, 2, 5, ARITHMETIC);
        floatings(1e38, true, 1e-5, true, 4, ARITHMETIC);
        decimals("1", "0", 3, ARITHMETIC);
        decimals("1", "0", 4, ARITHMETIC);
        decimals("0", "0", 5, ARITHMETIC);
        due("no register", call("reckon(0, 8, 1, 2)"), INDEX);
        due("no register", call("reckon(0, 0, -1, 2)"), INDEX);
        due("no register", call("reckon(0, 0, 1, 8)"), INDEX);
        due("no operation", call("reckon(6, 0, 1, 2)"), INDEX);
        due("no operation", call("reckon(-1, 0, 1, 2)"), INDEX);
        due("an empty one", call("reckon(0, 0, 5, 2)"), STATE);
        due("an empty one", call("reckon(0, 5, 0, 2)"), STATE);
        due("no operation of an empty one", call("reckon(9, 5, 0, 2)"), INDEX);
        due("no register for an empty one", call("reckon(0, 5, 0, 9)"), INDEX);
        due("into itself", read("3", 0, 1) + call("reckon(2, 0, 0, 0)") + register(0), "donedone1 9/0");
    }

    private static void oneExact() {
        ones("-12.5", DECIMAL, "0 125/1", "0 125/1", "0 -13/0", "0 -12/0", "0 -12/0", "0 -12/0");
        ones("13.5", DECIMAL, "0 -135/1", "0 135/1", "0 13/0", "0 14/0", "0 14/0", "0 14/0");
        ones("12.5", DECIMAL, "0 -125/1", "0 125/1", "0 12/0", "0 13/0", "0 13/0", "0 12/0");
        ones("-0.500001", DECIMAL, "0 500001/6", "0 500001/6", "0 -1/0", "0 0/0", "0 -1/0", "0 -1/0");
        ones("0.499999", DECIMAL, "0 -499999/6", "0 499999/6", "0 0/0", "0 1/0", "0 0/0", "0 0/0");
        ones("-128", BYTE, "1 128/0", "1 128/0", "1 -128/0", "1 -128/0", "1 -128/0", "1 -128/0");
        ones("7", INTEGER, "1 -7/0", "1 7/0", "1 7/0", "1 7/0", "1 7/0", "1 7/0");
        ones("0", DECIMAL, "0 0/0", "0 0/0", "0 0/0", "0 0/0", "0 0/0", "0 0/0");
    }

    private static void oneFloating() {
        ones("-2.5", DOUBLE, "9 2.5", "9 2.5", "9 -3.0", "9 -2.0", "9 -2.0", "9 -2.0");
        ones("3.5", DOUBLE, "9 -3.5", "9 3.5", "9 3.0", "9 4.0", "9 4.0", "9 4.0");
        ones("-0.5", FLOAT, "8 0.5", "8 0.5", "8 -1.0", "8 -0.0", "8 -0.0", "8 -0.0");
        ones("0.25", FLOAT, "8 -0.25", "8 0.25", "8 0.0", "8 1.0", "8 0.0", "8 0.0");
        ones("-0", DOUBLE, "9 0.0", "9 0.0", "9 -0.0", "9 -0.0", "9 -0.0", "9 -0.0");
        ones("0", DOUBLE, "9 -0.0", "9 0.0", "9 0.0", "9 0.0", "9 0.0", "9 0.0");
        ones("-INF", DOUBLE, "9 Infinity", "9 Infinity", "9 -Infinity", "9 -Infinity", "9 -Infinity", "9 -Infinity");
        double[] large = {4503599627370495.5, -4503599627370495.5, 4503599627370496.0, 1e300, 0.49999999999999994, -8388607.5};
        for (double x : large) {
            double[] wants = {-x, Math.abs(x), Math.floor(x), Math.ceil(x), Math.floor(x) + (x - Math.floor(x) >= 0.5 ? 1 : 0),
                Math.rint(x)};
            onesOfDouble(x, false, wants);
        }
        forge.put(0, 8388607.5, true);
        due("a large float", call("one(4, 0, 1)") + register(1), "done8 8388608.0");
    }

    private static void oneRefuses() {
        forge = new NumberForge();
        read("3", 0, INT);
        due("no register", call("one(0, 8, 1)"), INDEX);
        due("no register", call("one(0, 0, -1)"), INDEX);
        due("no operation", call("one(6, 0, 1)"), INDEX);
        due("no operation", call("one(-1, 0, 1)"), INDEX);
        due("an empty one", call("one(0, 1, 0)"), STATE);
        due("no operation of an empty one", call("one(6, 1, 0)"), INDEX);
        due("the register stays", register(0), "2 3/0");
        due("into itself", call("one(0, 0, 0)") + register(0), "done1 -3/0");
    }

    private static void castAll() {
        casts("12.75", DECIMAL, INTEGER, "1 12/0");
        casts("-12.75", DECIMAL, BYTE, "4 -12/0");
        casts("-0.75", DECIMAL, 6, "6 0/0");
        casts("12.75", DECIMAL, DECIMAL, "0 1275/2");
        casts("200", INT, 5, "5 200/0");
        casts("0.1", DECIMAL, DOUBLE, "9 0.1");
        casts("0.1", DECIMAL, FLOAT, "8 " + (double) 0.1f);
        casts("16777217", INTEGER, FLOAT, "8 1.6777216E7");
        casts("0.1", FLOAT, DOUBLE, "9 " + (double) 0.1f);
        casts("0.1", DOUBLE, FLOAT, "8 " + (double) 0.1f);
        casts("1e15", DOUBLE, FLOAT, "8 " + (double) 1e15f);
        casts("0.1", FLOAT, DECIMAL, "0 1/1");
        castsDouble(1e39, FLOAT, "8 Infinity");
        castsDouble(-INFINITE, FLOAT, "8 -Infinity");
        castsDouble(-0.0, DECIMAL, "0 0/0");
        castsDouble(0.0000005, DECIMAL, "0 0/0");
        castsDouble(0.0000015, DECIMAL, "0 2/6");
        castsDouble(-0.0000025, DECIMAL, "0 -2/6");
        castsDouble(0.0078125, DECIMAL, "0 7812/6");
        castsDouble(-0.0234375, DECIMAL, "0 -23438/6");
        castsDouble(999999999.9999999, DECIMAL, "0 1000000000/0");
        castsDouble(999999999.5, DECIMAL, "0 9999999995/1");
        castsDouble(1000000000.75, DECIMAL, "0 1000000000/0");
        castsDouble(999999999999999.9, DECIMAL, "0 999999999999999/0");
        castsDouble(-999999999999999.9, INTEGER, "1 -999999999999999/0");
        castsDouble(-128.9, BYTE, "4 -128/0");
        castsDouble(1.9, 7, "7 1/0");
        castsDouble(-0.9, 5, "5 0/0");
    }

    private static void castRefuses() {
        forge = new NumberForge();
        casts("7", INTEGER, INT, "2 7/0");
        casts("128", INTEGER, BYTE, ARGUMENT);
        casts("-1", INTEGER, 5, ARGUMENT);
        casts("0.9", DECIMAL, 7, ARGUMENT);
        casts("2147483648", DECIMAL, INT, ARGUMENT);
        castsDouble(128.0, BYTE, ARGUMENT);
        castsDouble(-1.0, 6, ARGUMENT);
        castsDouble(INFINITE, DECIMAL, ARITHMETIC);
        castsDouble(-INFINITE, BYTE, ARITHMETIC);
        castsDouble(1e15, DECIMAL, LIMIT);
        castsDouble(-1e15, INTEGER, LIMIT);
        castsDouble(1e15, BYTE, LIMIT);
        due("no register", call("cast(8, 0, 1)"), INDEX);
        due("no register", call("cast(0, 0, -1)"), INDEX);
        due("no type", call("cast(0, 10, 1)"), INDEX);
        due("no type of an empty one", call("cast(5, -1, 1)"), INDEX);
        due("an empty one", call("cast(5, 0, 1)"), STATE);
    }

    private static void compare() {
        compares("1", INT, "2", BYTE, -1);
        compares("12.5", DECIMAL, "12.499999", DECIMAL, 1);
        compares("-12.5", DECIMAL, "-12.499999", DECIMAL, -1);
        compares("-0.5", DECIMAL, "0.5", DECIMAL, -1);
        compares("999999999999999", DECIMAL, "0.000001", DECIMAL, 1);
        compares("3", DECIMAL, "3", 7, 0);
        compares("0", DOUBLE, "-0", DOUBLE, 0);
        compares("-0", FLOAT, "0", INTEGER, 0);
        compares("0.1", FLOAT, "0.1", DOUBLE, 1);
        compares("0.1", FLOAT, "0.1", DECIMAL, 0);
        compares("0.1", DOUBLE, "0.1", DECIMAL, 0);
        compares("16777217", INTEGER, "16777216", FLOAT, 0);
        compares("16777217", INTEGER, "16777216", DOUBLE, 1);
        compares("-INF", DOUBLE, "-999999999999999", INTEGER, -1);
        compares("INF", DOUBLE, "INF", FLOAT, 0);
        due("no register", call("compare(8, 0)"), INDEX);
        due("no register", call("compare(5, -1)"), INDEX);
        due("an empty one", call("compare(5, 0)"), STATE);
        due("an empty one", call("compare(0, 5)"), STATE);
    }

    private static void kind() {
        for (int type = 0; type < 10; type++) {
            read("1", 4, type);
            due("kind", forge.kind(4), type);
        }
        due("an empty one", forge.kind(0), -1);
        due("no register", forge.kind(8), -1);
        due("no register", forge.kind(-1), -1);
    }

    private static void real() {
        read("-12.5", 0, DECIMAL);
        due("a decimal", forge.real(0), -12.5);
        read("123456789.123457", 0, DECIMAL);
        due("a long decimal", forge.real(0), 123456789123457.0 / 1e6);
        forge.put(0, 0.1, true);
        due("a float", forge.real(0), (double) 0.1f);
        forge.put(0, -0.0, false);
        due("-0", forge.real(0), -0.0);
        due("no register", call("real(8)"), INDEX);
        due("no register", call("real(-1)"), INDEX);
        due("an empty one", call("real(1)"), STATE);
    }

    private static void exact() {
        read("-12.50", 0, DECIMAL);
        due("u", forge.exact(0, 0), -125L);
        due("s", forge.exact(0, 1), 1L);
        due("another part", forge.exact(0, 2), 0L);
        due("another part", forge.exact(0, -1), 0L);
        due("an empty one", forge.exact(1, 0), 0L);
        due("no register", forge.exact(8, 0), 0L);
        due("no register", forge.exact(-1, 1), 0L);
        forge.put(0, 5, false);
        due("a double", forge.exact(0, 0), 0L);
    }

    private static void write() {
        writes("-12.50", DECIMAL, "-12.5");
        writes("0.000001", DECIMAL, "0.000001");
        writes("-0.05", DECIMAL, "-0.05");
        writes("999999999999999", INTEGER, "999999999999999");
        writes("0", BYTE, "0");
        writes("INF", DOUBLE, "INF");
        writes("-INF", FLOAT, "-INF");
        writes("-0", DOUBLE, "-0");
        writes("0", FLOAT, "0");
        writes("0.1", DOUBLE, "0.1");
        writes("-0.1", FLOAT, "-0.1");
        writes("100", DOUBLE, "100");
        writes("999999.5", DOUBLE, "999999.5");
        writes("1e6", DOUBLE, "1.0E6");
        writes("-1234567", DOUBLE, "-1.234567E6");
        writes("0.000001", DOUBLE, "0.000001");
        writes("0.000001", FLOAT, "1.0E-6");
        writes("0.0000009", DOUBLE, "9.0E-7");
        writes("0.00000001", DOUBLE, "1.0E-8");
        writes("0.00000000999", DOUBLE, LIMIT);
        writes("1e15", DOUBLE, LIMIT);
        writes("-999999999999999", DOUBLE, "-9.99999999999999E14");
        writes("1000000000000000", FLOAT, "1.0E15");
        writes("16777216", FLOAT, "1.6777216E7");
        writes("0.00000123456789012345", DOUBLE, "0.00000123456789012345");
        forge.put(0, 9.999999999999998, false);
        due("none comes back", written(0), "10");
        forge.put(0, 0.1 + 0.2, false);
        due("none comes back", written(0), "0.3");
        forge.put(0, 1.0 / 3, true);
        due("a third as a float", written(0), "0.33333334");
        forge.put(0, 1e300, false);
        due("too large", call("write(0)"), LIMIT);
        due("the output stays", outputText(), "0.33333334");
        due("no register", call("write(8)"), INDEX);
        due("no register", call("write(-1)"), INDEX);
        due("an empty one", call("write(1)"), STATE);
    }

    private static void picture() {
        pictures("1234567.891", "#,##0.00", "1,234,567.89");
        pictures("-1234.5", "$ #,##0.00 EUR", "-$ 1,234.50 EUR");
        pictures("-0.005", "0.00", "0.00");
        pictures("-0.015", "0.00", "-0.02");
        pictures("0.5", "0", "0");
        pictures("1.5", "#", "2");
        pictures("0", "#", "0");
        pictures("0", "#.##", "0");
        pictures("0.5", "#.##", ".5");
        pictures("0", "#.00", ".00");
        pictures("12", "0.", "12");
        pictures("12", "a0b", "a12b");
        pictures("1.25", "0.0##", "1.25");
        pictures("1", "0.0##", "1.0");
        pictures("1", "0.00000000", "1.00000000");
        pictures("1.000001", "0.0#######", "1.000001");
        pictures("5", "000,000", "000,005");
        pictures("1234567", "#,#", "1,2,3,4,5,6,7");
        pictures("1234567", "#,###,00", "1,23,45,67");
        pictures("12", "#,##0", "12");
        pictures("0.125", "0.#%", "12.5%");
        pictures("0.125", "0%", "12%");
        pictures("0.135", "0%%", "14%%");
        pictures("-3", "0 pct", "-3 pct");
        pictures("9999999999999.99", "#,##0%", "999,999,999,999,999%");
        String zeros = "00000000000000000000000000000000000000,0";
        pictures("7", zeros, zeros.replace(",", "").substring(1).replaceAll("0", "0,") + "7");
        due("the text stays", call("picture(0)"), "77");
        forge.put(0, 2.675, false);
        due("a double", pictured("0.00", 0), "2.68");
        forge.put(0, 0.1, true);
        due("a float", pictured("0.000000#", 0), "0.100000");
    }

    private static void pictureRefuses() {
        pictures("7", "0", "7");
        String[] none = {"", "abc", "%", "%0", ",0", "0,", "0,,0", "#,,0", "0,.0", ".0", "0#", "0.#0", "0.0.", "0.0,0", "0a0", "#a,", "0 #"};
        for (String s : none) {
            due("'" + s + "'", pictured(s, 0), ARGUMENT);
        }
        read("999999999999999", 1, INTEGER);
        due("times 100", pictured("0%", 1), LIMIT);
        forge.put(1, INFINITE, false);
        due("infinite", pictured("0", 1), ARITHMETIC);
        due("no picture for an infinite one", pictured("x", 1), ARGUMENT);
        forge.put(1, 1e15, true);
        due("a large float", pictured("0", 1), "999999986991104");
        forge.put(1, 1e15, false);
        due("too large", pictured("0", 1), LIMIT);
        due("no register", pictured("0", 8), INDEX);
        due("no register", pictured("x", -1), INDEX);
        due("an empty one", pictured("x", 5), STATE);
        due("the output stays", outputText(), "999999986991104");
    }

    private static void letters() {
        letter("-42", 0, "-42");
        letter("1", 1, "a");
        letter("26", 1, "z");
        letter("27", 1, "aa");
        letter("52", 2, "AZ");
        letter("702", 1, "zz");
        letter("703", 2, "AAA");
        letter("999999999999999", 1, "gbdpxgrzxjk");
        letter("0", 1, "0");
        letter("-1", 2, "-1");
        letter("1", 3, "i");
        letter("1994", 3, "mcmxciv");
        letter("449", 4, "CDXLIX");
        letter("3888", 4, "MMMDCCCLXXXVIII");
        letter("3999", 3, "mmmcmxcix");
        letter("4000", 3, "4000");
        letter("0", 4, "0");
        letter("-5", 3, "-5");
        read("9", 0, BYTE);
        due("a byte", lettered(0, 3), "ix");
        read("9", 1, DECIMAL);
        due("a decimal", lettered(1, 3), STATE);
        forge.put(1, 9, false);
        due("a double", lettered(1, 0), STATE);
        due("an empty one", lettered(2, 0), STATE);
        due("no style", lettered(0, 5), INDEX);
        due("no style for an empty one", lettered(2, -1), INDEX);
        due("no register", lettered(8, 0), INDEX);
        due("no register", lettered(-1, 0), INDEX);
        due("the output stays", outputText(), "ix");
    }

    private static void output() {
        due("how many at first", forge.output(-1), 0);
        read("105", 0, INTEGER);
        forge.write(0);
        due("how many", forge.output(-1), 3);
        due("the first", forge.output(0), (int) '1');
        due("the last", forge.output(2), (int) '5');
        due("none behind", forge.output(3), -1);
        due("none before", forge.output(-2), -1);
        due("none such", forge.output(Integer.MAX_VALUE), -1);
        read("7", 0, INTEGER);
        forge.write(0);
        due("how many then", forge.output(-1), 1);
        due("none of the old ones", forge.output(1), -1);
    }
}
