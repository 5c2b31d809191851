/**
 * Each call that the document refuses, or answers with false, NONE or 0: the answer is the one it names, and all that
 * stands afterwards is what stands in a twin of the object that was not so called.
 */
public final class RefusalTest extends Bench {
    private static final String TEXT = "12.5";
    private static final int[] NO_REGISTERS = {-1, 8, 9, Integer.MIN_VALUE, Integer.MAX_VALUE};

    public static void main(String[] args) {
        types();
        reads();
        putsAndKinds();
        reckonsWithoutRegister();
        reckonsExact();
        reckonsFloating();
        ones();
        casts();
        comparesAndReals();
        writes();
        picturesWithoutRegister();
        pictures();
        letters();
        end("refusals");
    }

    // ---- Twins

    /** An object with all kinds of values: register 3 is empty, the output is "12.5". */
    private static void make(String text) {
        forge = new NumberForge();
        read("12.5", 0, DECIMAL);
        forge.write(0);
        read("7", 1, BYTE);
        forge.put(2, 1e15, false);
        forge.put(4, 0.1, true);
        forge.put(5, -0.0, false);
        forge.put(6, INFINITE, false);
        read("999999999999999", 7, INTEGER);
        text(text);
    }

    /** All that calls can tell of the object; it is used up by that. */
    private static String story() {
        StringBuilder b = new StringBuilder();
        for (int r = 0; r < 8; r++) {
            b.append(register(r)).append("; ");
        }
        b.append("output ").append(outputText()).append("; text ");
        b.append(call("picture(0)")).append(outputText()).append("; ");
        b.append(forge.type('0')).append(call("picture(0)")).append(outputText()).append("; ");
        b.append(call("read(3, 9)")).append(register(3)).append("; ");
        return b.append(roomInText()).toString();
    }

    /** The last call is due to answer so and to change nothing; those before it only bring the object there. */
    private static void refused(String want, String text, String... calls) {
        make(text);
        before(calls);
        String stands = story();
        make(text);
        before(calls);
        String told = calls[calls.length - 1] + " with the text '" + text + "'";
        due(told, call(calls[calls.length - 1]), want);
        due("what stands after " + told, story(), stands);
    }

    private static void before(String[] calls) {
        for (int i = 0; i < calls.length - 1; i++) {
            due(calls[i], call(calls[i]), "done");
        }
    }

    // ---- The calls

    private static void types() {
        under("2: false if another byte is not 32 .. 126");
        for (int code : new int[] {1, 9, 10, 31, 127, 128, 160, 255}) {
            for (int shift = 0; shift < 64; shift += 8) {
                refused("false", TEXT, "type(" + (bytes("11111111") & ~(255L << shift) | (long) code << shift) + ")");
                refused("false", TEXT, "type(" + ((long) code << shift) + ")");
            }
        }
        under("2: false if there would be more than 40");
        String full = "0000000000000000000000000000000000000000";
        for (int more = 1; more <= 8; more++) {
            refused("false", full, "type(" + bytes("11111111".substring(8 - more)) + ")");
            refused("false", full.substring(more - 1), "type(" + bytes("11111111".substring(8 - more)) + ")");
        }
        refused("true", full, "type(0)");
    }

    private static void reads() {
        under("4: IndexOutOfBoundsException if there is no such register or type");
        for (int r : NO_REGISTERS) {
            refused(INDEX, TEXT, "read(" + r + ", 0)");
            refused(INDEX, "x", "read(" + r + ", 0)");
            refused(INDEX, TEXT, "read(" + r + ", 10)");
        }
        for (int type : new int[] {-1, 10, 11, Integer.MIN_VALUE, Integer.MAX_VALUE}) {
            refused(INDEX, TEXT, "read(0, " + type + ")");
            refused(INDEX, "x", "read(3, " + type + ")");
        }
        under("4: IllegalArgumentException if it is not so written");
        for (int type = DECIMAL; type <= DOUBLE; type++) {
            for (String text : new String[] {"", " ", "x", "1x", "--1", "1.5.", "+", "1e+", "1 2", "$#"}) {
                refused(ARGUMENT, text, "read(3, " + type + ")");
                refused(ARGUMENT, text, "read(0, " + type + ")");
            }
        }
        under("4: IllegalArgumentException if it does not fit");
        String[] unfit = {"2 2147483648", "2 -2147483649", "3 32768", "3 -32769", "4 128", "4 -129", "5 256", "5 -1", "6 -1", "7 0", "7 -5"};
        for (String s : unfit) {
            refused(ARGUMENT, s.substring(2), "read(0, " + s.charAt(0) + ")");
        }
        under("4: UnsupportedOperationException for LIMIT");
        for (int type = DECIMAL; type <= POSITIVE; type++) {
            refused(LIMIT, "1000000000000000", "read(0, " + type + ")");
            refused(LIMIT, "-1000000000000000", "read(3, " + type + ")");
        }
        refused(LIMIT, "0.0000001", "read(0, 0)");
        refused(LIMIT, "1000000000.000001", "read(0, 0)");
        for (int type = FLOAT; type <= DOUBLE; type++) {
            refused(LIMIT, "1e23", "read(3, " + type + ")");
            refused(LIMIT, "1e-23", "read(0, " + type + ")");
            refused(LIMIT, "1000000000000001", "read(4, " + type + ")");
        }
    }

    private static void putsAndKinds() {
        for (int r : NO_REGISTERS) {
            under("5: IndexOutOfBoundsException if there is no such register");
            refused(INDEX, TEXT, "put(" + r + ", 1.5, false)");
            refused(INDEX, TEXT, "put(" + r + ", -Infinity, true)");
            under("10, 12: NONE and 0 if there is no such register");
            refused("-1", TEXT, "kind(" + r + ")");
            refused("0", TEXT, "exact(" + r + ", 0)");
            refused("0", TEXT, "exact(" + r + ", 1)");
        }
        refused("-1", TEXT, "kind(3)");
        for (int r : new int[] {2, 3, 4, 5, 6}) {
            refused("0", TEXT, "exact(" + r + ", 0)");
            refused("0", TEXT, "exact(" + r + ", 1)");
        }
        refused("0", TEXT, "exact(0, 2)");
        refused("0", TEXT, "exact(0, -1)");
        under("16: NONE if there is none such");
        for (int k : new int[] {-2, 4, 5, 128, Integer.MIN_VALUE, Integer.MAX_VALUE}) {
            refused("-1", TEXT, "output(" + k + ")");
        }
    }

    private static void reckonsWithoutRegister() {
        under("6: IndexOutOfBoundsException if there is no such register or operation");
        for (int r : NO_REGISTERS) {
            refused(INDEX, TEXT, "reckon(0, " + r + ", 1, 2)");
            refused(INDEX, TEXT, "reckon(0, 0, " + r + ", 2)");
            refused(INDEX, TEXT, "reckon(0, 0, 1, " + r + ")");
            refused(INDEX, TEXT, "reckon(0, 3, 3, " + r + ")");
            refused(INDEX, TEXT, "reckon(0, 3, " + r + ", 2)");
            refused(INDEX, TEXT, "reckon(0, " + r + ", 3, 2)");
        }
        for (int operation : new int[] {-1, 6, 7, Integer.MIN_VALUE, Integer.MAX_VALUE}) {
            refused(INDEX, TEXT, "reckon(" + operation + ", 0, 1, 2)");
            refused(INDEX, TEXT, "reckon(" + operation + ", 3, 3, 2)");
            refused(INDEX, TEXT, "reckon(" + operation + ", 6, 6, 2)");
        }
        under("6: IllegalStateException if a or b is empty");
        for (int operation = 0; operation < 6; operation++) {
            refused(STATE, TEXT, "reckon(" + operation + ", 3, 0, 2)");
            refused(STATE, TEXT, "reckon(" + operation + ", 0, 3, 2)");
            refused(STATE, TEXT, "reckon(" + operation + ", 3, 3, 3)");
            refused(STATE, TEXT, "reckon(" + operation + ", 6, 3, 2)");
            refused(STATE, TEXT, "reckon(" + operation + ", 3, 5, 2)");
        }
    }

    private static void reckonsExact() {
        under("6: exact 3, 4, 5 by 0 are ArithmeticException");
        for (int operation = 3; operation < 6; operation++) {
            for (int a : new int[] {0, 1, 7}) {
                refused(ARITHMETIC, TEXT, "reckon(1, 0, 0, 3)", "reckon(" + operation + ", " + a + ", 3, 0)");
                refused(ARITHMETIC, TEXT, "reckon(1, 1, 1, 3)", "reckon(" + operation + ", " + a + ", 3, 3)");
            }
            refused(ARITHMETIC, TEXT, "reckon(1, 1, 1, 3)", "reckon(" + operation + ", 3, 3, 0)");
        }
        under("6: exact answers that are LIMIT");
        refused(LIMIT, TEXT, "reckon(0, 7, 1, 0)");
        refused(LIMIT, TEXT, "reckon(0, 7, 0, 3)");
        refused(LIMIT, TEXT, "reckon(0, 7, 7, 7)");
        refused(LIMIT, TEXT, "one(0, 7, 3)", "reckon(1, 3, 1, 0)");
        refused(LIMIT, TEXT, "one(0, 7, 3)", "reckon(1, 7, 3, 3)");
        refused(LIMIT, TEXT, "reckon(2, 7, 1, 0)");
        refused(LIMIT, TEXT, "reckon(2, 7, 0, 7)");
        refused(LIMIT, TEXT, "put(3, 0.5, false)", "cast(3, 0, 3)", "reckon(3, 7, 3, 0)");
        refused(LIMIT, TEXT, "put(3, 0.5, false)", "cast(3, 0, 3)", "reckon(4, 7, 3, 3)");
    }

    private static void reckonsFloating() {
        for (String single : new String[] {"false", "true"}) {
            String zero = "put(0, 0.0, " + single + ")";
            String minusZero = "put(1, -0.0, " + single + ")";
            String infinite = "put(2, Infinity, " + single + ")";
            String minusInfinite = "put(4, -Infinity, " + single + ")";
            String finite = "put(5, 1.5, " + single + ")";
            under("6: there is no NaN, single " + single);
            String[] none = {"0, 2, 4", "0, 4, 2", "1, 2, 2", "1, 4, 4", "2, 0, 2", "2, 4, 0", "2, 1, 4", "2, 2, 1", "3, 0, 0", "3, 0, 1",
                "3, 1, 0", "3, 2, 2", "3, 2, 4", "3, 4, 2", "4, 0, 0", "4, 1, 0", "4, 2, 2", "4, 2, 4", "4, 5, 0", "4, 5, 1", "4, 2, 0",
                "4, 2, 5", "4, 4, 5", "5, 5, 0", "5, 5, 1", "5, 0, 1", "5, 2, 5", "5, 4, 5", "5, 2, 2", "5, 2, 0"};
            for (String operation : none) {
                refused(ARITHMETIC, TEXT, zero, minusZero, infinite, minusInfinite, finite, "reckon(" + operation + ", 3)");
                refused(ARITHMETIC, TEXT, zero, minusZero, infinite, minusInfinite, finite, "reckon(" + operation + ", 5)");
            }
            under("6: the whole part is LIMIT, single " + single);
            refused(LIMIT, TEXT, finite, "put(2, 2e15, " + single + ")", "reckon(4, 2, 5, 0)");
            refused(LIMIT, TEXT, finite, "put(2, -2e15, " + single + ")", "reckon(4, 2, 5, 2)");
        }
        under("6: the quotient is infinite");
        refused(ARITHMETIC, TEXT, "put(3, 1e300, false)", "put(4, 1e-300, false)", "reckon(4, 3, 4, 3)");
        refused(ARITHMETIC, TEXT, "put(3, 1e30, true)", "put(4, 1e-30, true)", "reckon(4, 3, 4, 0)");
        refused(LIMIT, TEXT, "reckon(4, 2, 4, 0)");
    }

    private static void ones() {
        under("7: IndexOutOfBoundsException if there is no such register or operation");
        for (int r : NO_REGISTERS) {
            refused(INDEX, TEXT, "one(0, " + r + ", 1)");
            refused(INDEX, TEXT, "one(0, 0, " + r + ")");
            refused(INDEX, TEXT, "one(0, 3, " + r + ")");
        }
        for (int operation : new int[] {-1, 6, 7, Integer.MIN_VALUE, Integer.MAX_VALUE}) {
            refused(INDEX, TEXT, "one(" + operation + ", 0, 1)");
            refused(INDEX, TEXT, "one(" + operation + ", 3, 1)");
            refused(INDEX, TEXT, "one(" + operation + ", 6, 1)");
        }
        under("7: IllegalStateException if a is empty");
        for (int operation = 0; operation < 6; operation++) {
            refused(STATE, TEXT, "one(" + operation + ", 3, 0)");
            refused(STATE, TEXT, "one(" + operation + ", 3, 3)");
        }
    }

    private static void casts() {
        under("8: IndexOutOfBoundsException if there is no such register or type");
        for (int r : NO_REGISTERS) {
            refused(INDEX, TEXT, "cast(" + r + ", 1, 0)");
            refused(INDEX, TEXT, "cast(0, 1, " + r + ")");
            refused(INDEX, TEXT, "cast(3, 1, " + r + ")");
            refused(INDEX, TEXT, "cast(6, 1, " + r + ")");
        }
        for (int type : new int[] {-1, 10, 11, Integer.MIN_VALUE, Integer.MAX_VALUE}) {
            refused(INDEX, TEXT, "cast(0, " + type + ", 1)");
            refused(INDEX, TEXT, "cast(3, " + type + ", 1)");
            refused(INDEX, TEXT, "cast(6, " + type + ", 1)");
        }
        for (int type = DECIMAL; type <= DOUBLE; type++) {
            under("8: IllegalStateException if a is empty");
            refused(STATE, TEXT, "cast(3, " + type + ", 0)");
            refused(STATE, TEXT, "cast(3, " + type + ", 3)");
        }
        for (int type = DECIMAL; type <= POSITIVE; type++) {
            under("8: infinite ones are ArithmeticException");
            refused(ARITHMETIC, TEXT, "cast(6, " + type + ", 0)");
            refused(ARITHMETIC, TEXT, "put(3, -Infinity, true)", "cast(3, " + type + ", 3)");
            under("8: an amount of 10^15 or more is LIMIT");
            refused(LIMIT, TEXT, "cast(2, " + type + ", 0)");
            refused(LIMIT, TEXT, "one(0, 2, 3)", "cast(3, " + type + ", 3)");
        }
        under("8: IllegalArgumentException if that does not fit");
        for (int type = INT; type <= UNSIGNED_BYTE; type++) {
            refused(ARGUMENT, TEXT, "cast(7, " + type + ", 0)");
            refused(ARGUMENT, TEXT, "put(3, -99999999999.5, false)", "cast(3, " + type + ", 3)");
        }
        for (int type = UNSIGNED_BYTE; type <= POSITIVE; type++) {
            refused(ARGUMENT, TEXT, "one(0, 0, 3)", "cast(3, " + type + ", 0)");
            refused(ARGUMENT, TEXT, "put(3, -1.0, true)", "cast(3, " + type + ", 3)");
        }
        refused(ARGUMENT, TEXT, "cast(5, 7, 0)");
        refused(ARGUMENT, TEXT, "cast(4, 7, 4)");
    }

    private static void comparesAndReals() {
        for (int r : NO_REGISTERS) {
            under("9: IndexOutOfBoundsException if there is no such register");
            refused(INDEX, TEXT, "compare(" + r + ", 0)");
            refused(INDEX, TEXT, "compare(0, " + r + ")");
            refused(INDEX, TEXT, "compare(3, " + r + ")");
            refused(INDEX, TEXT, "compare(" + r + ", 3)");
            under("11: IndexOutOfBoundsException if there is no such register");
            refused(INDEX, TEXT, "real(" + r + ")");
        }
        under("9: IllegalStateException if one is empty");
        refused(STATE, TEXT, "compare(3, 0)");
        refused(STATE, TEXT, "compare(0, 3)");
        refused(STATE, TEXT, "compare(6, 3)");
        refused(STATE, TEXT, "compare(3, 3)");
        under("11: IllegalStateException if it is empty");
        refused(STATE, TEXT, "real(3)");
    }

    private static void writes() {
        under("13: IndexOutOfBoundsException if there is no such register");
        for (int r : NO_REGISTERS) {
            refused(INDEX, TEXT, "write(" + r + ")");
        }
        under("13: IllegalStateException if it is empty");
        refused(STATE, TEXT, "write(3)");
        under("13: UnsupportedOperationException if d is not from 1 / TEN(8) to below TEN(15)");
        refused(LIMIT, TEXT, "write(2)");
        refused(LIMIT, TEXT, "put(3, -1e15, false)", "write(3)");
        refused(LIMIT, TEXT, "put(3, 9.999999999999999e-9, false)", "write(3)");
        refused(LIMIT, TEXT, "put(3, -1e-8, true)", "write(3)");
        refused(LIMIT, TEXT, "put(3, 1e30, true)", "write(3)");
    }

    private static void picturesWithoutRegister() {
        under("14: IndexOutOfBoundsException if there is no such register");
        for (int r : NO_REGISTERS) {
            refused(INDEX, "a#,##0.0b", "picture(" + r + ")");
            refused(INDEX, "no picture", "picture(" + r + ")");
        }
        under("14: IllegalStateException if it is empty");
        refused(STATE, "a#,##0.0b", "picture(3)");
        refused(STATE, "no picture", "picture(3)");
        refused(STATE, "", "picture(3)");
    }

    private static void pictures() {
        under("14: IllegalArgumentException if the text is no picture");
        for (String text : new String[] {"", "no picture", "0#", ",0", "0,", "0,,0", ".0", "%0", "0.#0", "0a0", "0.0.", "0.0,0"}) {
            for (int r : new int[] {0, 1, 2, 5, 6, 7}) {
                refused(ARGUMENT, text, "picture(" + r + ")");
            }
        }
        under("14: ArithmeticException as casting does");
        refused(ARITHMETIC, "a#,##0.0b", "picture(6)");
        refused(ARITHMETIC, "a#,##0.0%", "put(3, -Infinity, true)", "picture(3)");
        under("14: UnsupportedOperationException as casting does");
        refused(LIMIT, "a#,##0.0b", "picture(2)");
        refused(LIMIT, "a#,##0.0%", "put(3, -2e15, true)", "picture(3)");
        under("14: UnsupportedOperationException for LIMIT");
        refused(LIMIT, "a#,##0.0%", "picture(7)");
        refused(LIMIT, "0%", "put(3, -1e13, false)", "picture(3)");
    }

    private static void letters() {
        under("15: IndexOutOfBoundsException if there is no such register or style");
        for (int r : NO_REGISTERS) {
            refused(INDEX, TEXT, "letters(" + r + ", 0)");
            refused(INDEX, TEXT, "letters(" + r + ", 5)");
        }
        for (int style : new int[] {-1, 5, 6, Integer.MIN_VALUE, Integer.MAX_VALUE}) {
            refused(INDEX, TEXT, "letters(1, " + style + ")");
            refused(INDEX, TEXT, "letters(3, " + style + ")");
            refused(INDEX, TEXT, "letters(0, " + style + ")");
        }
        under("15: IllegalStateException if it does not hold a value of the types 1 to 7");
        for (int style = 0; style < 5; style++) {
            refused(STATE, TEXT, "letters(3, " + style + ")");
            refused(STATE, TEXT, "letters(0, " + style + ")");
            refused(STATE, TEXT, "letters(4, " + style + ")");
            refused(STATE, TEXT, "letters(5, " + style + ")");
            refused(STATE, TEXT, "cast(1, 0, 3)", "letters(3, " + style + ")");
        }
    }
}
