/** Each sentence that names a boundary of new objects, texts, reading and putting, on both sides (promises 1 to 5). */
public final class TextBoundaryTest extends Bench {
    private static final float MOST_FLOAT = Float.MAX_VALUE;

    public static void main(String[] args) {
        newObjects();
        texts();
        readingExact();
        readingFloating();
        putting();
        end("boundaries of texts");
    }

    // ---- Promise 1

    private static void newObjects() {
        under("1: registers 0 .. 7 are empty at first");
        for (int r = -1; r <= 8; r++) {
            due("kind(" + r + ")", forge.kind(r), -1);
            due("exact(" + r + ", 0)", forge.exact(r, 0), 0L);
            due("exact(" + r + ", 1)", forge.exact(r, 1), 0L);
            due("real(" + r + ")", calling("real", r), r < 0 || r > 7 ? INDEX : STATE);
        }
        under("1: an empty output");
        due("how many", forge.output(-1), 0);
        due("the first", forge.output(0), NumberForge.NONE);
        under("1: an empty text");
        due("reading it", call("read(0, 0)"), ARGUMENT);
        due("its room", roomInText(), 40);
        under("1: an object is used for at most 512 calls");
        due("reading 1", read("1", 0, INTEGER) + read("1", 1, INTEGER), "donedone");
        for (int call = 7; call <= 511; call++) {
            due("call " + call, call("reckon(0, 0, 1, 0)"), "done");
        }
        due("call 512", forge.exact(0, 0), 506L);
        under("constants");
        due("NONE", NumberForge.NONE, -1);
    }

    // ---- Promises 2 and 3

    private static void texts() {
        under("2: the bytes, the highest first");
        due("eight", forge.type(bytes("12345678")), true);
        due("two more", forge.type(bytes("90")), true);
        due("what stands", call("read(0, 1)") + register(0), "done1 1234567890/0");
        under("2: bytes that are 0 are passed over");
        due("none but those", forge.type(0L), true);
        due("before, between and behind", forge.type(0x0031003200003300L), true);
        due("the first and the last byte", forge.type(0x3400000000000035L), true);
        due("room is left for 35", roomInText(), 35);
        forge.wipe();
        forge.type(0x0031003200003300L);
        forge.type(0x3400000000000035L);
        due("what stands", call("read(0, 1)") + register(0), "done1 12345/0");
        everyByte();
        fortyCharacters();
        wiping();
    }

    private static void everyByte() {
        under("2: 32 .. 126");
        for (int code = 0; code < 256; code++) {
            for (int shift = 0; shift < 64; shift += 8) {
                fresh();
                boolean good = code == 0 || code >= 32 && code <= 126;
                long others = bytes("11111111") & ~(255L << shift);
                due("byte " + code + " at bit " + shift, forge.type(others | (long) code << shift), good);
                due("room behind byte " + code, roomInText(), !good ? 40 : code == 0 ? 33 : 32);
            }
        }
    }

    private static void fill(int count) {
        fresh();
        for (int i = 0; i < count; i++) {
            forge.type('0');
        }
    }

    private static void fortyCharacters() {
        under("2: at most 40 characters");
        for (int before = 30; before <= 40; before++) {
            for (int more = 0; more <= 8; more++) {
                fill(before);
                boolean held = before + more <= 40;
                due(before + " and " + more, forge.type(bytes("11111111".substring(8 - more))), held);
                due("room behind " + before + " and " + more, roomInText(), 40 - before - (held ? more : 0));
            }
        }
        fill(40);
        due("no more characters", forge.type(0L), true);
        due("all forty are read", call("read(0, 1)") + register(0), "done1 0/0");
    }

    private static void wiping() {
        under("3: the text becomes empty");
        due("an empty one", call("wipe()"), "done");
        due("its room", roomInText(), 40);
        due("a full one", call("wipe()"), "done");
        due("its room", roomInText(), 40);
        read("12.5", 0, DECIMAL);
        forge.write(0);
        forge.type(bytes("99"));
        forge.wipe();
        due("nothing to read", call("read(0, 0)"), ARGUMENT);
        due("the register", register(0), "0 125/1");
        due("the output", outputText(), "12.5");
    }

    // ---- Promise 4

    private static void readingExact() {
        blanks();
        wholeNumbers();
        decimalForms();
        limitsOfDecimals();
        boundsOfTypes();
        wrapArounds();
        under("4: registers 0 .. 7 and types 0 .. 9");
        for (int r = 0; r < 8; r++) {
            for (int type = 0; type < 10; type++) {
                due("type " + type, read("1", r, type) + forge.kind(r) + " " + forge.real(r), "done" + type + " 1.0");
            }
        }
        under("4: the text is empty then");
        due("read", read("1", 0, DECIMAL) + roomInText(), "done40");
        under("4: nothing of an earlier text counts");
        due("one with all parts", read("-12.5e-20", 0, DOUBLE) + register(0), "done9 -1.25E-19");
        due("a plain one", read("5", 0, DOUBLE) + register(0), "done9 5.0");
        due("an infinite one", read("-INF", 0, DOUBLE) + register(0), "done9 -Infinity");
        due("a plain one", read("5", 0, FLOAT) + register(0), "done8 5.0");
        due("a long one", read("1000000000000001", 0, DECIMAL), LIMIT);
        due("a plain one", read("0", 0, DECIMAL) + register(0), "done0 0/0");
        due("one with a scale", read("-0.000001", 0, DECIMAL) + register(0), "done0 -1/6");
        due("a plain one", read("20", 0, INTEGER) + register(0), "done1 20/0");
        under("4: by an exception it stays");
        due("refused", read("1x", 0, DECIMAL) + roomInText(), ARGUMENT + 38);
    }

    private static void blanks() {
        under("4: blanks at both ends of the text do not count");
        reads("   7", INTEGER, "1 7/0");
        reads("7   ", INTEGER, "1 7/0");
        reads("                   -7                   ", BYTE, "4 -7/0");
        reads("                                       7", DECIMAL, "0 7/0");
        reads("7                                       ", DOUBLE, "9 7.0");
        reads("  INF ", FLOAT, "8 Infinity");
        reads(" 0.5 ", DECIMAL, "0 5/1");
        for (int type = 0; type < 10; type++) {
            reads("", type, ARGUMENT);
            reads(" ", type, ARGUMENT);
            reads("                                        ", type, ARGUMENT);
            reads("1 2", type, ARGUMENT);
            reads("- 1", type, ARGUMENT);
        }
        reads("1 .5", DECIMAL, ARGUMENT);
        reads("1. 5", DOUBLE, ARGUMENT);
        reads("1 e5", DOUBLE, ARGUMENT);
        reads("1e 5", DOUBLE, ARGUMENT);
        reads("1e- 5", DOUBLE, ARGUMENT);
        reads("- INF", DOUBLE, ARGUMENT);
        reads("IN F", DOUBLE, ARGUMENT);
    }

    private static void wholeNumbers() {
        under("4: types 1 to 7: an optional + or -, one or more digits");
        for (int type = INTEGER; type <= POSITIVE; type++) {
            reads("1", type, type + " 1/0");
            reads("+1", type, type + " 1/0");
            reads("0000000000000000000000000000000000000001", type, type + " 1/0");
            reads("+000000000000000000000000000000000000001", type, type + " 1/0");
            for (String s : new String[] {"+", "-", "+-1", "-+1", "++1", "--1", "1+", "1-", "1.", "1.0", ".1", "1e1", "1E0", "x", "1x",
                "x1", "INF", "/", "1/", ":", "1:", "1,000"}) {
                reads(s, type, ARGUMENT);
            }
        }
        for (int type = INTEGER; type <= BYTE; type++) {
            reads("-1", type, type + " -1/0");
        }
        reads("-0", NOT_NEGATIVE, "6 0/0");
        reads("0123456789", INTEGER, "1 123456789/0");
    }

    private static void decimalForms() {
        under("4: DECIMAL: an optional + or -, digits with or without a . and any number of digits, or a . and digits");
        reads("5", DECIMAL, "0 5/0");
        reads("5.", DECIMAL, "0 5/0");
        reads("+5.", DECIMAL, "0 5/0");
        reads("5.0", DECIMAL, "0 5/0");
        reads(".5", DECIMAL, "0 5/1");
        reads("+.5", DECIMAL, "0 5/1");
        reads("-.5", DECIMAL, "0 -5/1");
        reads("-5.25", DECIMAL, "0 -525/2");
        reads("0.10", DECIMAL, "0 1/1");
        reads(".0", DECIMAL, "0 0/0");
        reads("-0.", DECIMAL, "0 0/0");
        reads("00000000000000000000000000000000000000.5", DECIMAL, "0 5/1");
        reads("5.00000000000000000000000000000000000000", DECIMAL, "0 5/0");
        for (String s : new String[] {".", "+", "-", "+.", "-.", "..", "..5", "5..", "5.5.", "1.2.3", "+-5", "5-", "5.-", ".-5", "5e1",
            "5.e1", "INF", "5,5", "x", "0x5", "5.5x", "$5"}) {
            reads(s, DECIMAL, ARGUMENT);
        }
    }

    private static void limitsOfDecimals() {
        under("4: it is LIMIT if it needs more than the scale 6");
        reads("0.000001", DECIMAL, "0 1/6");
        reads("-0.000001", DECIMAL, "0 -1/6");
        reads("0.0000001", DECIMAL, LIMIT);
        reads("-0.0000001", DECIMAL, LIMIT);
        reads("0.0000010", DECIMAL, "0 1/6");
        reads("1.1234560", DECIMAL, "0 1123456/6");
        reads("1.1234561", DECIMAL, LIMIT);
        reads("0.0000000", DECIMAL, "0 0/0");
        reads("1.00000000000000000000000000000000000000", DECIMAL, "0 1/0");
        reads("1.00000000000000000000000000000000000001", DECIMAL, LIMIT);
        reads("0.00000000000000000000000000000000000001", DECIMAL, LIMIT);
        under("4: u below 10^15 in amount");
        reads("999999999999999", DECIMAL, "0 999999999999999/0");
        reads("-999999999999999", DECIMAL, "0 -999999999999999/0");
        reads("1000000000000000", DECIMAL, LIMIT);
        reads("-1000000000000000", DECIMAL, LIMIT);
        reads("999999999.999999", DECIMAL, "0 999999999999999/6");
        reads("1000000000.000001", DECIMAL, LIMIT);
        reads("1000000000.00001", DECIMAL, "0 100000000000001/5");
        reads("99999999999999.9", DECIMAL, "0 999999999999999/1");
        reads("100000000000000.1", DECIMAL, LIMIT);
        reads("100000000000000.0", DECIMAL, "0 100000000000000/0");
        reads("9999999999999999999999999999999999999999", DECIMAL, LIMIT);
        reads("1000000000000000000000000000000000000000", DECIMAL, LIMIT);
        under("4: the scale as small as can be (0 for 0)");
        reads("12.500000", DECIMAL, "0 125/1");
        reads("12.050000", DECIMAL, "0 1205/2");
        reads("10.000000", DECIMAL, "0 10/0");
        reads("0.000000", DECIMAL, "0 0/0");
    }

    private static void bounds(int type, String below, String lowest, String highest, String above) {
        reads(lowest, type, type + " " + lowest + "/0");
        reads(highest, type, type + " " + highest + "/0");
        String wide = type == INTEGER ? LIMIT : ARGUMENT;
        reads(below, type, wide);
        reads(above, type, above.length() > 15 ? LIMIT : wide);
        casts(lowest, DECIMAL, type, type + " " + lowest + "/0");
        casts(highest, DECIMAL, type, type + " " + highest + "/0");
        casts(highest + "e0", DOUBLE, type, type + " " + highest + "/0");
        casts(lowest + "e0", DOUBLE, type, type + " " + lowest + "/0");
        if (type != INTEGER) {
            casts(below, DECIMAL, type, ARGUMENT);
            casts(below, DOUBLE, type, ARGUMENT);
        }
        if (above.length() <= 15) {
            casts(above, DECIMAL, type, ARGUMENT);
            casts(above, DOUBLE, type, ARGUMENT);
        }
        reads("1000000000000000", type, LIMIT);
        reads("-1000000000000000", type, LIMIT);
    }

    private static void boundsOfTypes() {
        under("4 and 8: a value fits a type 1 to 7 if it is in its bounds");
        String most = "999999999999999";
        bounds(INTEGER, "-1000000000000000", "-" + most, most, "1000000000000000");
        bounds(INT, "-2147483649", "-2147483648", "2147483647", "2147483648");
        bounds(SHORT, "-32769", "-32768", "32767", "32768");
        bounds(BYTE, "-129", "-128", "127", "128");
        bounds(UNSIGNED_BYTE, "-1", "0", "255", "256");
        bounds(NOT_NEGATIVE, "-1", "0", most, "1000000000000000");
        bounds(POSITIVE, "0", "1", most, "1000000000000000");
        under("4: a whole number of type 2 to 7 that is LIMIT is that, and else it may not fit");
        reads("999999999999999", BYTE, ARGUMENT);
        reads("-999999999999999", POSITIVE, ARGUMENT);
        reads("9999999999999999", BYTE, LIMIT);
        reads("-9999999999999999", POSITIVE, LIMIT);
        reads("9999999999999999x", BYTE, ARGUMENT);
    }

    private static void wrapArounds() {
        under("4: what a machine's numbers would wrap around");
        reads("257", BYTE, ARGUMENT);
        reads("-257", UNSIGNED_BYTE, ARGUMENT);
        reads("65537", SHORT, ARGUMENT);
        reads("4294967297", INT, ARGUMENT);
        reads("-4294967295", INT, ARGUMENT);
        reads("4294967297", INTEGER, "1 4294967297/0");
        for (int type = DECIMAL; type <= DOUBLE; type++) {
            reads("9223372036854775809", type, LIMIT);
            reads("18446744073709551615", type, LIMIT);
            reads("18446744073709551617", type, LIMIT);
            reads("-18446744073709551617", type, LIMIT);
        }
        reads("18446744073709.551617", DECIMAL, LIMIT);
        reads("1e256", DOUBLE, LIMIT);
        reads("1e-256", FLOAT, LIMIT);
    }

    private static void readingFloating() {
        for (int type = FLOAT; type <= DOUBLE; type++) {
            formsOfFloating(type);
            limitsOfFloating(type);
        }
        under("4: m * TEN(k), or m / TEN(-k)");
        reads("999999999999999e22", DOUBLE, "9 " + 999999999999999.0 * 1e22);
        reads("123456789012345e-22", DOUBLE, "9 " + 123456789012345.0 / 1e22);
        reads("0.3", DOUBLE, "9 0.3");
        reads("0.009", DOUBLE, "9 0.009");
        reads("-1.25", DOUBLE, "9 -1.25");
        under("4: a FLOAT is that, cast");
        reads("0.1", FLOAT, "8 " + (double) 0.1f);
        reads("16777217", FLOAT, "8 1.6777216E7");
        reads("16777219", FLOAT, "8 1.677722E7");
        // As a double it is half way between two floats, so the cast goes to the even one; it is above that half itself.
        reads("172775564971606e3", FLOAT, "8 " + (double) (float) 172775564971606e3);
        due("the two are not the same", (float) 172775564971606e3 != 172775564971606e3f, true);
        reads("999999999999999e22", FLOAT, "8 " + (double) (float) (999999999999999.0 * 1e22));
        reads("1e-22", FLOAT, "8 " + (double) 1e-22f);
    }

    private static void formsOfFloating(int type) {
        under("4: type " + type + ": INF, +INF, -INF");
        reads("INF", type, type + " Infinity");
        reads("+INF", type, type + " Infinity");
        reads("-INF", type, type + " -Infinity");
        for (String s : new String[] {"inf", "Inf", "IN", "INFF", "INFINITY", "NaN", "--INF", "+-INF", "INF.", "INFe1", "1INF", "INF1",
            "-", "+", "-I", "XNF", "IXF", "INX"}) {
            reads(s, type, ARGUMENT);
        }
        under("4: type " + type + ": as DECIMAL, with or without e or E, a sign and one to three digits");
        reads("5", type, type + " 5.0");
        reads("5.", type, type + " 5.0");
        reads(".5", type, type + " 0.5");
        reads("-.5", type, type + " -0.5");
        reads("5e1", type, type + " 50.0");
        reads("5E1", type, type + " 50.0");
        reads("5.e+1", type, type + " 50.0");
        reads("+.5e-01", type, type + " " + (type == FLOAT ? (double) 0.05f : 0.05));
        reads("5e022", type, type + " " + (type == FLOAT ? (double) (float) 5e22 : 5e22));
        reads("5e-000", type, type + " 5.0");
        reads("-5.5e+002", type, type + " -550.0");
        for (String s : new String[] {".", "+", "-.", "e", "e1", ".e1", "-e1", "5e", "5e+", "5e-", "5e+-1", "5e1234", "5e0000", "0e0000",
            "5e1.", "5e1.0", "5e1e1", "5ee1", "5f", "5d", "5e1x", "5 e1", "1.2.3", "--5", "5x1"}) {
            reads(s, type, ARGUMENT);
        }
    }

    private static void limitsOfFloating(int type) {
        under("4: type " + type + ": LIMIT if m is 10^15 or more");
        String most = type + " " + (type == FLOAT ? (double) 999999999999999f : 999999999999999.0);
        reads("999999999999999", type, most);
        reads("1000000000000001", type, LIMIT);
        reads("-1000000000000001", type, LIMIT);
        reads("9999999999999999", type, LIMIT);
        reads("1.000000000000001", type, LIMIT);
        under("4: type " + type + ": m without zeros at the front and at the end");
        reads("00000000999999999999999", type, most);
        reads("999999999999999.00000000", type, most);
        reads("0.0009999999999999990e18", type, most);
        reads("9999999999999990e-1", type, most);
        reads("1000000000000000", type, type + " " + (type == FLOAT ? (double) 1e15f : 1e15));
        under("4: type " + type + ": LIMIT if k is not -22 .. 22");
        String top = type + " " + (type == FLOAT ? (double) (float) 1e22 : 1e22);
        String bottom = type + " " + (type == FLOAT ? (double) (float) 1e-22 : 1e-22);
        reads("1e22", type, top);
        reads("1e23", type, LIMIT);
        reads("1e-22", type, bottom);
        reads("1e-23", type, LIMIT);
        reads("-1e23", type, LIMIT);
        reads("10e21", type, top);
        reads("10e22", type, LIMIT);
        reads("0.1e23", type, top);
        reads("0.1e24", type, LIMIT);
        reads("0.1e-21", type, bottom);
        reads("0.1e-22", type, LIMIT);
        reads("10000000000000000000000", type, top);
        reads("100000000000000000000000", type, LIMIT);
        reads("0.0000000000000000000001", type, bottom);
        reads("0.00000000000000000000001", type, LIMIT);
        reads("1e999", type, LIMIT);
        reads("1e-999", type, LIMIT);
        under("4: type " + type + ": 0 (or -0 with a -) if m is 0");
        for (String s : new String[] {"0", "000", "0.", ".0", "0.000", "0e23", "0e999", "0e-999", "0.00e-23"}) {
            reads(s, type, type + " 0.0");
            reads("+" + s, type, type + " 0.0");
            reads("-" + s, type, type + " -0.0");
        }
    }

    // ---- Promise 5

    private static void puts(double v, boolean single, String want) {
        due("put of " + v, calling("put", 6, v, single) + " " + register(6), "done " + want);
    }

    private static void putting() {
        under("5: a DOUBLE, or, with single, cast to a FLOAT");
        puts(0.1, false, "9 0.1");
        puts(0.1, true, "8 " + (double) 0.1f);
        puts(-0.0, false, "9 -0.0");
        puts(-0.0, true, "8 -0.0");
        puts(INFINITE, false, "9 Infinity");
        puts(-INFINITE, true, "8 -Infinity");
        puts(Double.MAX_VALUE, false, "9 " + Double.MAX_VALUE);
        puts(Double.MIN_VALUE, false, "9 " + Double.MIN_VALUE);
        double half = MOST_FLOAT + Math.ulp(MOST_FLOAT) / 2.0;
        puts(MOST_FLOAT, true, "8 " + (double) MOST_FLOAT);
        puts(Math.nextDown(half), true, "8 " + (double) MOST_FLOAT);
        puts(half, true, "8 Infinity");
        puts(-half, true, "8 -Infinity");
        double least = Float.MIN_VALUE;
        puts(least / 2, true, "8 0.0");
        puts(-least / 2, true, "8 -0.0");
        puts(Math.nextUp(least / 2), true, "8 " + least);
        puts(16777217, true, "8 1.6777216E7");
        under("5: registers 0 .. 7");
        for (int r = 0; r < 8; r++) {
            due("put", calling("put", r, 1.5, false) + register(r), "done9 1.5");
        }
    }
}
