/** What the tests of examples share: a NumberForge, its calls told as texts, and their answers set against those due. */
abstract class Bench {
    static final String INDEX = "IndexOutOfBoundsException";
    static final String STATE = "IllegalStateException";
    static final String ARGUMENT = "IllegalArgumentException";
    static final String ARITHMETIC = "ArithmeticException";
    static final String LIMIT = "UnsupportedOperationException";

    static final int DECIMAL = 0;
    static final int INTEGER = 1;
    static final int INT = 2;
    static final int SHORT = 3;
    static final int BYTE = 4;
    static final int UNSIGNED_BYTE = 5;
    static final int NOT_NEGATIVE = 6;
    static final int POSITIVE = 7;
    static final int FLOAT = 8;
    static final int DOUBLE = 9;
    static final double INFINITE = Double.POSITIVE_INFINITY;

    static NumberForge forge = new NumberForge();

    private static String heading = "";
    private static int wrong = 0;

    /** What the next answers belong to; they begin with a new object. */
    static void under(String what) {
        heading = what;
        fresh();
    }

    /** The document promises 512 calls of an object, so long rows of examples take a new one for each. */
    static void fresh() {
        forge = new NumberForge();
    }

    static void due(String what, Object got, Object want) {
        if (!got.equals(want)) {
            wrong++;
            System.out.println(heading + ": " + what + " is " + got + ", due is " + want);
        }
    }

    static void end(String tests) {
        System.out.println(tests + ": " + (wrong == 0 ? "all answers are as due" : wrong + " answers are not as due"));
        if (wrong != 0) {
            System.exit(1);
        }
    }

    // ---- Calls as texts

    /** Makes the call told: what it answers, "done" for nothing, or the name of what it throws. */
    static String call(String told) {
        int open = told.indexOf('(');
        String[] with = told.substring(open + 1, told.length() - 1).split(", ");
        try {
            return made(told.substring(0, open), with);
        } catch (RuntimeException e) {
            // By its name a division by 0 in the machine would pass for an exception that the document asks for.
            return "/ by zero".equals(e.getMessage()) ? "the machine's exception" : e.getClass().getSimpleName();
        }
    }

    private static String made(String name, String[] with) {
        switch (name) {
            case "type":
                return "" + forge.type(Long.decode(with[0]));
            case "wipe":
                forge.wipe();
                return "done";
            case "put":
                forge.put(whole(with, 0), Double.parseDouble(with[1]), Boolean.parseBoolean(with[2]));
                return "done";
            case "read":
                forge.read(whole(with, 0), whole(with, 1));
                return "done";
            case "reckon":
                forge.reckon(whole(with, 0), whole(with, 1), whole(with, 2), whole(with, 3));
                return "done";
            case "one":
                forge.one(whole(with, 0), whole(with, 1), whole(with, 2));
                return "done";
            case "cast":
                forge.cast(whole(with, 0), whole(with, 1), whole(with, 2));
                return "done";
            default:
                return "" + asked(name, with);
        }
    }

    private static Object asked(String name, String[] with) {
        switch (name) {
            case "compare":
                return forge.compare(whole(with, 0), whole(with, 1));
            case "kind":
                return forge.kind(whole(with, 0));
            case "real":
                return forge.real(whole(with, 0));
            case "exact":
                return forge.exact(whole(with, 0), whole(with, 1));
            case "write":
                return forge.write(whole(with, 0));
            case "picture":
                return forge.picture(whole(with, 0));
            case "letters":
                return forge.letters(whole(with, 0), whole(with, 1));
            case "output":
                return forge.output(whole(with, 0));
            default:
                throw new Error("no call " + name);
        }
    }

    private static int whole(String[] with, int k) {
        return Integer.parseInt(with[k]);
    }

    static String calling(String name, Object... with) {
        StringBuilder b = new StringBuilder(name).append('(');
        for (int i = 0; i < with.length; i++) {
            b.append(i == 0 ? "" : ", ").append(with[i]);
        }
        return call(b.append(')').toString());
    }

    // ---- What stands in the object

    /** Type and value of a register: "0 125/1" for the DECIMAL 12.5, "9 12.5" for the DOUBLE. */
    static String register(int r) {
        if (forge.kind(r) < 0) {
            return "empty";
        }
        return forge.kind(r) + " " + (forge.kind(r) >= FLOAT ? "" + forge.real(r) : forge.exact(r, 0) + "/" + forge.exact(r, 1));
    }

    static String outputText() {
        StringBuilder b = new StringBuilder();
        int length = forge.output(-1);
        for (int k = 0; k < length; k++) {
            b.append((char) forge.output(k));
        }
        return b.toString();
    }

    /** How many more characters the text takes; it is full then. */
    static int roomInText() {
        int count = 0;
        while (count <= 40 && forge.type('0')) {
            count++;
        }
        return count;
    }

    // ---- Calls with their texts

    static long bytes(String s) {
        long part = 0;
        for (int i = 0; i < s.length(); i++) {
            part = part << 8 | s.charAt(i);
        }
        return part;
    }

    static void text(String s) {
        forge.wipe();
        for (int i = 0; i < s.length(); i += 8) {
            due("type of " + s, forge.type(bytes(s.substring(i, Math.min(i + 8, s.length())))), true);
        }
    }

    static String read(String s, int r, int type) {
        text(s);
        return calling("read", r, type);
    }

    static String written(int r) {
        return outputOf(calling("write", r));
    }

    static String pictured(String s, int r) {
        text(s);
        return outputOf(calling("picture", r));
    }

    static String lettered(int r, int style) {
        return outputOf(calling("letters", r, style));
    }

    private static String outputOf(String answer) {
        if (!answer.matches("-?\\d+")) {
            return answer;
        }
        due("the length answered", answer, "" + forge.output(-1));
        return outputText();
    }

    // ---- One example each, with an object of its own

    static void reads(String s, int type, String want) {
        fresh();
        String got = read(s, 3, type);
        due("reading '" + s + "' as " + type, got.equals("done") ? register(3) : got, want);
    }

    static void exactly(String a, int typeOfA, String b, int typeOfB, int operation, String want) {
        fresh();
        due("reading " + a, read(a, 0, typeOfA), "done");
        due("reading " + b, read(b, 1, typeOfB), "done");
        String got = calling("reckon", operation, 0, 1, 2);
        due(a + " " + operation + " " + b, got.equals("done") ? register(2) : got, want);
    }

    static void decimals(String a, String b, int operation, String want) {
        exactly(a, DECIMAL, b, DECIMAL, operation, want);
    }

    static void floatings(double a, boolean singleA, double b, boolean singleB, int operation, String want) {
        fresh();
        forge.put(0, a, singleA);
        forge.put(1, b, singleB);
        String got = calling("reckon", operation, 0, 1, 2);
        due(a + " " + operation + " " + b, got.equals("done") ? register(2) : got, want);
    }

    static void doubles(double a, double b, int operation, String want) {
        floatings(a, false, b, false, operation, want);
    }

    static void floats(double a, double b, int operation, String want) {
        floatings(a, true, b, true, operation, want);
    }

    /** What each of the six operations on one makes of the number. */
    static void ones(String s, int type, String... wants) {
        fresh();
        due("reading", read(s, 0, type), "done");
        onesOfRegister(s, wants);
    }

    static void onesOfDouble(double x, boolean single, double... wants) {
        fresh();
        forge.put(0, x, single);
        String[] told = new String[wants.length];
        for (int i = 0; i < wants.length; i++) {
            told[i] = (single ? "8 " : "9 ") + wants[i];
        }
        onesOfRegister("" + x, told);
    }

    private static void onesOfRegister(String what, String[] wants) {
        for (int operation = 0; operation < 6; operation++) {
            due("one(" + operation + ") of " + what, calling("one", operation, 0, 1) + " " + register(1),
                "done " + wants[operation]);
        }
    }

    static void casts(String s, int from, int to, String want) {
        fresh();
        due("reading", read(s, 0, from), "done");
        String got = calling("cast", 0, to, 1);
        due("cast of " + s + " from " + from + " to " + to, got.equals("done") ? register(1) : got, want);
    }

    static void castsDouble(double x, int to, String want) {
        castsFloating(x, false, to, want);
    }

    static void castsFloating(double x, boolean single, int to, String want) {
        fresh();
        forge.put(0, x, single);
        String got = calling("cast", 0, to, 1);
        due("cast of " + x + " to " + to, got.equals("done") ? register(1) : got, want);
    }

    static void compares(String a, int typeOfA, String b, int typeOfB, int want) {
        fresh();
        due("reading " + a, read(a, 0, typeOfA), "done");
        due("reading " + b, read(b, 1, typeOfB), "done");
        due(a + " to " + b, calling("compare", 0, 1), "" + want);
        due(b + " to " + a, calling("compare", 1, 0), "" + -want);
    }

    static void writes(String s, int type, String want) {
        fresh();
        due("reading " + s, read(s, 0, type), "done");
        due("writing " + s + " as " + type, written(0), want);
    }

    static void writesDouble(double x, String want) {
        fresh();
        forge.put(0, x, false);
        due("writing " + x, written(0), want);
    }

    static void writesFloat(double x, String want) {
        fresh();
        forge.put(0, x, true);
        due("writing the float " + x, written(0), want);
    }

    static void pictures(String number, String s, String want) {
        fresh();
        due("reading", read(number, 0, DECIMAL), "done");
        due(number + " by " + s, pictured(s, 0), want);
    }

    static void letter(String number, int style, String want) {
        fresh();
        due("reading", read(number, 0, INTEGER), "done");
        due(number + " in style " + style, lettered(0, style), want);
    }
}
