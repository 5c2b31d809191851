import java.math.BigDecimal;
import java.math.BigInteger;
import java.math.RoundingMode;
import java.util.regex.Matcher;
import java.util.regex.Pattern;

/**
 * Runs of calls, the same in every test run, on a NumberForge and on a second reading of the document that uses
 * what the Java library has (BigDecimal, regular expressions, %, Math.rint) where NumberForge may not.
 * After each call the answers and what the call wrote must be the same on both, and at the end of a run all
 * registers.
 */
public final class ModelTest {
    /** With so many calls made on an object no more is begun: the last one and a look at all stay within 512. */
    private static final int CALLS = 300;

    private static int wrong = 0;
    private static int calls = 0;
    private static long seed = 20261119L;

    private static int pick(int count) {
        seed = seed * 6364136223846793005L + 1442695040888963407L;
        return (int) ((seed >>> 33) % count);
    }

    public static void main(String[] args) {
        int runs = args.length > 0 ? Integer.parseInt(args[0]) : 6000;
        for (int run = 1; run <= runs && wrong < 20; run++) {
            runOnce(run);
        }
        System.out.println(wrong == 0 ? "model: all answers are as due" : "model: answers are not as due");
        if (wrong != 0) {
            System.exit(1);
        }
    }

    private static void runOnce(int run) {
        NumberForge forge = new NumberForge();
        Model model = new Model();
        StringBuilder story = new StringBuilder();
        calls = 0;
        String difference = null;
        while (calls < CALLS && difference == null) {
            difference = differenceByCall(forge, model, story);
        }
        for (int r = -1; r <= 8 && difference == null; r++) {
            difference = differenceOfRegister(r, forge, model);
        }
        if (difference != null || calls > 512) {
            wrong++;
            System.out.println("run " + run + ": " + difference + " after " + calls + " calls, the last of them" + tail(story));
        }
    }

    private static String tail(StringBuilder story) {
        return story.length() > 1500 ? story.substring(story.length() - 1500) : story.toString();
    }

    // ---- One call on both sides

    /** Makes a call on both sides and tells it in the story; what differs then, or null. */
    private static String differenceByCall(NumberForge forge, Model model, StringBuilder story) {
        int which = pick(20);
        long[] with = arguments(which);
        double v = which == 4 || which == 5 ? someDouble() : 0;
        String text = which < 4 ? someText() : which == 15 || which == 16 ? somePicture() : null;
        String got = answer(forge, null, which, with, v, text);
        String due = answer(null, model, which, with, v, text);
        story.append("\n  ").append(name(which)).append(java.util.Arrays.toString(with)).append(' ').append(v).append(' ')
            .append(text).append(" -> ").append(got);
        if (!got.equals(due)) {
            return "due is " + due;
        }
        if (which >= 15 && which <= 18) {
            return differenceOfOutput(forge, model);
        }
        return which < 14 ? differenceOfRegister((int) with[which < 6 ? 0 : with.length - 1], forge, model) : null;
    }

    private static String name(int which) {
        String[] names = {"read", "read", "read", "read", "put", "put", "reckon", "reckon", "reckon", "reckon",
            "one", "one", "cast", "cast", "compare", "picture", "picture", "letters", "write", "type"};
        return names[which];
    }

    private static long[] arguments(int which) {
        int r = someRegister();
        switch (which) {
            case 0: case 1: case 2: case 3:
                return new long[] {r, oddly(10)};
            case 4: case 5:
                return new long[] {r, pick(2)};
            case 6: case 7: case 8: case 9:
                return new long[] {oddly(6), r, someRegister(), someRegister()};
            case 10: case 11:
                return new long[] {oddly(6), r, someRegister()};
            case 12: case 13:
                return new long[] {r, oddly(10), someRegister()};
            case 14:
                return new long[] {r, someRegister()};
            case 17:
                return new long[] {r, oddly(5)};
            case 19:
                return new long[] {pick(10) == 0 ? ((long) pick(1 << 30) << 32) + pick(1 << 30) : Bench.bytes("" + pick(2000))};
            default:
                return new long[] {r};
        }
    }

    private static String answer(NumberForge f, Model m, int which, long[] w, double v, String text) {
        calls += f != null ? 1 : 0;
        try {
            switch (which) {
                case 0: case 1: case 2: case 3:
                    typeAll(f, m, text);
                    if (f != null) f.read((int) w[0], (int) w[1]); else m.read((int) w[0], (int) w[1]);
                    return "";
                case 4: case 5:
                    if (f != null) f.put((int) w[0], v, w[1] == 1); else m.put((int) w[0], v, w[1] == 1);
                    return "";
                case 6: case 7: case 8: case 9:
                    if (f != null) f.reckon((int) w[0], (int) w[1], (int) w[2], (int) w[3]);
                    else m.reckon((int) w[0], (int) w[1], (int) w[2], (int) w[3]);
                    return "";
                case 10: case 11:
                    if (f != null) f.one((int) w[0], (int) w[1], (int) w[2]);
                    else m.one((int) w[0], (int) w[1], (int) w[2]);
                    return "";
                case 12: case 13:
                    if (f != null) f.cast((int) w[0], (int) w[1], (int) w[2]);
                    else m.cast((int) w[0], (int) w[1], (int) w[2]);
                    return "";
                case 14:
                    return "" + (f != null ? f.compare((int) w[0], (int) w[1]) : m.compare((int) w[0], (int) w[1]));
                case 15: case 16:
                    typeAll(f, m, text);
                    return "" + (f != null ? f.picture((int) w[0]) : m.picture((int) w[0]));
                case 17:
                    return "" + (f != null ? f.letters((int) w[0], (int) w[1]) : m.letters((int) w[0], (int) w[1]));
                case 18:
                    return "" + (f != null ? f.write((int) w[0]) : m.write((int) w[0]));
                default:
                    return "" + (f != null ? f.type(w[0]) : m.type(w[0]));
            }
        } catch (RuntimeException e) {
            return e.getClass().getName();
        }
    }

    private static void typeAll(NumberForge f, Model m, String text) {
        calls += f != null ? 1 + (text.length() + 7) / 8 : 0;
        if (f != null) f.wipe(); else m.text = "";
        for (int i = 0; i < text.length(); i += 8) {
            long part = Bench.bytes(text.substring(i, Math.min(text.length(), i + 8)));
            if (f != null) f.type(part); else m.type(part);
        }
    }

    // ---- What the calls are made with

    private static int someRegister() {
        return pick(60) == 0 ? (pick(2) == 0 ? -1 : 8) : pick(5);
    }

    private static int oddly(int count) {
        return pick(60) == 0 ? (pick(2) == 0 ? -1 : count) : pick(count);
    }

    private static String someDigits(int most) {
        int kind = pick(6);
        StringBuilder b = new StringBuilder();
        int n = pick(most + 1);
        for (int i = 0; i < n; i++) {
            b.append(kind == 0 ? '9' : kind == 1 ? '0' : kind == 2 ? (i == 0 ? '1' : '0') : kind == 3 ? "05".charAt(pick(2))
                : (char) ('0' + pick(10)));
        }
        return b.toString();
    }

    private static String someText() {
        String[] odd = {"", " ", "INF", "-INF", "+INF", "inf", "INFE1", "1e", "e1", "1e+", "1e1234", "--1", "+", "-", ".", "-.",
            "1..2", "..5", "1.2.3", "1 2", "- 1", "-0", "+0.0", "0e999", "-0e-999", "1e22", "1e23", "1e-22", "1e-23", "x", "1x",
            "2147483647", "-2147483648", "2147483648", "32767", "-32769", "128", "255", "256", "-1", "0", "1",
            "999999999999999", "1000000000000000", "0.0000001", "1.0000000000", "999999999999999e22", "12345678.12345678",
            "9999999", "100000010000001", "999999.9", "100000010.000001", "0.000001", "1000000", "1e6"};
        if (pick(4) == 0) {
            return odd[pick(odd.length)];
        }
        String[] signs = {"", "", "-", "+"};
        if (pick(4) == 0) {
            return signs[pick(4)] + (1 + pick(9)) + someDigits(8) + "." + someDigits(6);
        }
        String s = signs[pick(4)] + someDigits(pick(3) == 0 ? 17 : 6);
        if (pick(2) == 0) {
            s += "." + someDigits(pick(5) == 0 ? 9 : 6);
        }
        if (pick(4) == 0) {
            s += (pick(2) == 0 ? "e" : "E") + signs[pick(4)] + pick(25);
        }
        if (pick(12) == 0) {
            s = "  " + s + " ";
        }
        return s;
    }

    private static double someDouble() {
        double[] odd = {0.0, -0.0, 1 / 0.0, -1 / 0.0, 0.5, -0.5, 1.5, 2.5, -2.5, 0.49999999999999994, 0.1, 1e15, 999999999999999.9,
            999999999999999.0, 1e9, 999999999.9999999, 999999999.9999995, 1e-6, 9.999999e-7, 1e-8, 9.99e-9, 1e6, 999999.9999999999, 9.999999999999998,
            4503599627370496.0, 4503599627370495.5, 8388608, 8388607.5, Double.MIN_VALUE, -Double.MAX_VALUE, Double.MAX_VALUE,
            1e38, 3.5e38, Float.MIN_VALUE, 0.0000005, 0.0000015, 123456789.123456789, 3999, 4000, 26, 27, 702, 703};
        int way = pick(5);
        if (way == 0) {
            return odd[pick(odd.length)];
        }
        if (way == 1) {
            seed = seed * 6364136223846793005L + 1442695040888963407L;
            double d = Double.longBitsToDouble(seed);
            return d != d ? 7.0 : d;
        }
        if (way == 2) {
            return (pick(2000001) - 1000000) / 8.0;
        }
        double[] tens = {1, 10, 100, 1e3, 1e4, 1e5, 1e6, 1e8, 1e10, 1e13};
        return (pick(200001) - 100000) * (double) (1 + pick(1000)) / tens[pick(tens.length)];
    }

    private static String somePicture() {
        String[] odd = {"", "#", "0", "%", "%0", "0%", "#.##%", "#,##0.00", "0,0", ",0", "0,", "0,,0", "#,#,0", "0.", "#.", "#.#",
            "#.0#", ".0", "0#", "0.#0", "a#b", "$ #,##0.00 EUR", "0,00000000000000000000000000000000000000",
            "00000000000000000000000000000000000000,0", "0.00000000000000000000000000000000000000", "0 0", "0.0.", "#,##", "0%%", "0,#"};
        if (pick(2) == 0) {
            return odd[pick(odd.length)];
        }
        StringBuilder b = new StringBuilder();
        String[] parts = {"a", "#", "#,", "0", ",0", "00", ".", "0", "#", "##", "%", "z"};
        int at = 0;
        while (at < parts.length && b.length() < 40) {
            if (pick(2) == 0) {
                b.append(parts[at]);
            }
            at += pick(8) == 0 ? 0 : 1;
        }
        return b.toString();
    }

    // ---- Both states

    private static String differenceOfRegister(int r, NumberForge f, Model m) {
        calls += 6;
        if (f.kind(r) != m.kind(r)) {
            return "kind(" + r + ") is " + f.kind(r) + ", due is " + m.kind(r);
        }
        for (int part = -1; part <= 2; part++) {
            if (f.exact(r, part) != m.exact(r, part)) {
                return "exact(" + r + ", " + part + ") is " + f.exact(r, part) + ", due is " + m.exact(r, part);
            }
        }
        if (m.kind(r) >= 0 && Double.doubleToRawLongBits(f.real(r)) != Double.doubleToRawLongBits(m.real(r))) {
            return "real(" + r + ") is " + f.real(r) + ", due is " + m.real(r);
        }
        return null;
    }

    private static String differenceOfOutput(NumberForge f, Model m) {
        int length = f.output(-1);
        calls += length + 3;
        StringBuilder out = new StringBuilder();
        for (int k = 0; k < length; k++) {
            out.append((char) f.output(k));
        }
        if (!out.toString().equals(m.output) || f.output(length) != -1 || f.output(-2) != -1) {
            return "output is '" + out + "', due is '" + m.output + "'";
        }
        return null;
    }

    // ---- The second reading of the document

    private static final class Model {
        private static final BigDecimal LIMIT = BigDecimal.TEN.pow(15);
        private static final String[] LOW = {null, null, "-2147483648", "-32768", "-128", "0", "0", "1"};
        private static final String[] HIGH = {null, null, "2147483647", "32767", "127", "255", null, null};

        private final int[] type = {-1, -1, -1, -1, -1, -1, -1, -1};
        private final BigDecimal[] exact = new BigDecimal[8];
        private final double[] real = new double[8];
        private String text = "";
        private String output = "";

        private static void check(boolean held, RuntimeException e) {
            if (!held) {
                throw e;
            }
        }

        private static void index(int r, int count) {
            check(r >= 0 && r < count, new IndexOutOfBoundsException());
        }

        private void full(int r) {
            check(type[r] >= 0, new IllegalStateException());
        }

        private static BigDecimal settled(BigDecimal v) {
            BigDecimal s = v.scale() > 6 ? v.setScale(6, RoundingMode.HALF_EVEN) : v;
            s = s.stripTrailingZeros();
            s = s.scale() < 0 ? s.setScale(0) : s;
            check(s.unscaledValue().abs().compareTo(LIMIT.toBigInteger()) < 0, new UnsupportedOperationException());
            return s;
        }

        private void set(int r, int t, BigDecimal v) {
            exact[r] = v;
            type[r] = t;
        }

        private void set(int r, int t, double v) {
            exact[r] = null;
            real[r] = t == 8 ? (float) v : v;
            type[r] = t;
        }

        private boolean type(long part) {
            StringBuilder more = new StringBuilder();
            for (int i = 7; i >= 0; i--) {
                char c = (char) (part >>> 8 * i & 0xff);
                if (c != 0) {
                    more.append(c);
                }
            }
            if (!more.toString().matches("[ -~]*") || text.length() + more.length() > 40) {
                return false;
            }
            text += more;
            return true;
        }

        private void read(int r, int t) {
            index(r, 8);
            index(t, 10);
            String s = text.replaceAll("^ +| +$", "");
            String decimal = "[+-]?(\\d+(\\.\\d*)?|\\.\\d+)";
            if (t >= 8) {
                check(s.matches("[+-]?INF|" + decimal + "([eE][+-]?\\d{1,3})?"), new IllegalArgumentException());
                set(r, t, readFloating(s));
            } else {
                check(s.matches(t == 0 ? decimal : "[+-]?\\d+"), new IllegalArgumentException());
                BigDecimal v = new BigDecimal(s).stripTrailingZeros();
                check(v.scale() <= 6, new UnsupportedOperationException());
                v = settled(v);
                fits(v, t);
                set(r, t, v);
            }
            text = "";
        }

        private static double readFloating(String s) {
            boolean negative = s.startsWith("-");
            String u = s.replaceAll("^[+-]", "");
            double d;
            if (u.equals("INF")) {
                d = Double.POSITIVE_INFINITY;
            } else {
                BigDecimal v = new BigDecimal(u.replaceFirst("\\.([eE]|$)", "$1")).stripTrailingZeros();
                if (v.signum() == 0) {
                    d = 0.0;
                } else {
                    int k = -v.scale();
                    check(v.unscaledValue().compareTo(LIMIT.toBigInteger()) < 0 && k >= -22 && k <= 22,
                        new UnsupportedOperationException());
                    d = k < 0 ? v.unscaledValue().doubleValue() / ten(-k) : v.unscaledValue().doubleValue() * ten(k);
                }
            }
            return negative ? -d : d;
        }

        private static double ten(int k) {
            return Double.parseDouble("1e" + k);
        }

        private static void fits(BigDecimal v, int t) {
            if (t >= 2 && t <= 7) {
                check(v.compareTo(new BigDecimal(LOW[t])) >= 0 && (HIGH[t] == null || v.compareTo(new BigDecimal(HIGH[t])) <= 0),
                    new IllegalArgumentException());
            }
        }

        private void put(int r, double v, boolean single) {
            index(r, 8);
            set(r, single ? 8 : 9, v);
        }

        private double real(int r) {
            return exact[r] == null ? real[r] : exact[r].unscaledValue().doubleValue() / ten(exact[r].scale());
        }

        private int kind(int r) {
            return r < 0 || r > 7 ? -1 : type[r];
        }

        private long exact(int r, int part) {
            if (r < 0 || r > 7 || type[r] < 0 || type[r] > 7) {
                return 0;
            }
            return part == 0 ? exact[r].unscaledValue().longValueExact() : part == 1 ? exact[r].scale() : 0;
        }

        private void reckon(int op, int a, int b, int to) {
            index(a, 8);
            index(b, 8);
            index(to, 8);
            index(op, 6);
            full(a);
            full(b);
            if (type[a] >= 8 || type[b] >= 8) {
                int t = type[a] == 9 || type[b] == 9 ? 9 : 8;
                double q = t == 9 ? doubles(op, real(a), real(b)) : floats(op, (float) real(a), (float) real(b));
                check(q == q && !(op >= 4 && real(b) == 0) && !(op == 5 && Double.isInfinite(real(a))), new ArithmeticException());
                // As floats an exact value may only come to 0 if it is 0, so the zeros above are right for them too.
                if (op == 4) {
                    check(!Double.isInfinite(q), new ArithmeticException());
                    BigDecimal whole = new BigDecimal(q).setScale(0, RoundingMode.DOWN);
                    check(whole.abs().compareTo(LIMIT) < 0, new UnsupportedOperationException());
                    set(to, 1, whole);
                } else {
                    set(to, t, q);
                }
                return;
            }
            int t = op == 3 ? 0 : op == 4 || type[a] > 0 && type[b] > 0 ? 1 : 0;
            set(to, t, settled(exactly(op, exact[a], exact[b])));
        }

        private static double doubles(int op, double x, double y) {
            return op == 0 ? x + y : op == 1 ? x - y : op == 2 ? x * y : op == 5 ? x % y : x / y;
        }

        private static float floats(int op, float x, float y) {
            return op == 0 ? x + y : op == 1 ? x - y : op == 2 ? x * y : op == 5 ? x % y : x / y;
        }

        private static BigDecimal exactly(int op, BigDecimal x, BigDecimal y) {
            check(op < 3 || y.signum() != 0, new ArithmeticException());
            switch (op) {
                case 0:
                    return x.add(y);
                case 1:
                    return x.subtract(y);
                case 2:
                    return x.multiply(y);
                case 3:
                    return x.divide(y, 6, RoundingMode.HALF_EVEN);
                case 4:
                    return x.divideToIntegralValue(y).setScale(0, RoundingMode.DOWN);
                default:
                    return x.remainder(y);
            }
        }

        private void one(int op, int a, int to) {
            index(a, 8);
            index(to, 8);
            index(op, 6);
            full(a);
            if (type[a] >= 8) {
                double x = real[a];
                double[] all = {-x, Math.abs(x), Math.floor(x), Math.ceil(x), halfUp(x), Math.rint(x)};
                set(to, type[a], all[op]);
                return;
            }
            BigDecimal v = exact[a];
            BigDecimal half = new BigDecimal("0.5");
            BigDecimal[] all = {v.negate(), v.abs(), v.setScale(0, RoundingMode.FLOOR), v.setScale(0, RoundingMode.CEILING),
                v.add(half).setScale(0, RoundingMode.FLOOR), v.setScale(0, RoundingMode.HALF_EVEN)};
            set(to, type[a] == 0 ? 0 : 1, settled(all[op]));
        }

        private static double halfUp(double x) {
            if (Double.isInfinite(x) || Math.abs(x) >= 4503599627370496.0) {
                return x;
            }
            return Math.copySign(new BigDecimal(x).add(new BigDecimal("0.5")).setScale(0, RoundingMode.FLOOR).doubleValue(), x);
        }

        private BigDecimal casted(int a, int t) {
            BigDecimal v = exact[a];
            if (v == null) {
                double x = real[a];
                check(!Double.isInfinite(x), new ArithmeticException());
                check(Math.abs(x) < 1e15, new UnsupportedOperationException());
                v = t == 0 && Math.abs(x) < 1e9 ? new BigDecimal(Math.rint(x * 1000000)).movePointLeft(6) : new BigDecimal((long) x);
            }
            v = settled(t == 0 ? v : v.setScale(0, RoundingMode.DOWN));
            fits(v, t);
            return v;
        }

        private void cast(int a, int t, int to) {
            index(a, 8);
            index(to, 8);
            index(t, 10);
            full(a);
            if (t >= 8) {
                set(to, t, real(a));
            } else {
                set(to, t, casted(a, t));
            }
        }

        private int compare(int a, int b) {
            index(a, 8);
            index(b, 8);
            full(a);
            full(b);
            if (type[a] < 8 && type[b] < 8) {
                return exact[a].compareTo(exact[b]);
            }
            boolean single = type[a] != 9 && type[b] != 9;
            double x = single ? (float) real(a) : real(a);
            double y = single ? (float) real(b) : real(b);
            return x < y ? -1 : x > y ? 1 : 0;
        }

        private int write(int r) {
            index(r, 8);
            full(r);
            output = exact[r] != null ? exact[r].toPlainString() : floating(real[r], type[r] == 8);
            return output.length();
        }

        private static String floating(double x, boolean single) {
            if (x == 0 || Double.isInfinite(x)) {
                return x == 0 ? (1 / x < 0 ? "-0" : "0") : x < 0 ? "-INF" : "INF";
            }
            double d = Math.abs(x);
            check(d >= 1 / 1e8 && d < 1e15, new UnsupportedOperationException());
            int e = -8;
            while (e < 14 && (e + 1 < 0 ? 1 / ten(-e - 1) : ten(e + 1)) <= d) {
                e++;
            }
            BigDecimal best = null;
            int most = single ? 8 : 15;
            for (int n = 1; n <= most; n++) {
                int q = e - n + 1;
                double m = Math.rint(q < 0 ? d * ten(-q) : d / ten(q));
                double back = q < 0 ? m / ten(-q) : m * ten(q);
                best = new BigDecimal(m).scaleByPowerOfTen(q);
                if ((single ? (float) back : back) == d) {
                    break;
                }
            }
            best = best.stripTrailingZeros();
            String sign = x < 0 ? "-" : "";
            if (d >= 1 / 1e6 && d < 1e6) {
                return sign + best.toPlainString();
            }
            String m = best.unscaledValue().toString();
            return sign + m.charAt(0) + "." + (m.length() == 1 ? "0" : m.substring(1)) + "E" + (m.length() - 1 - best.scale());
        }

        private int picture(int r) {
            index(r, 8);
            full(r);
            Matcher p = Pattern.compile("([^#0,.%]*)([#,]*[0,]*)(?:\\.(0*)(#*))?([^#0,.]*)").matcher(text);
            boolean is = p.matches() && p.group(2).matches(".*[#0].*") && !p.group(2).matches(",.*|.*,|.*,,.*");
            check(is, new IllegalArgumentException());
            BigDecimal v = casted(r, 0);
            if (p.group(5).contains("%")) {
                v = settled(v.movePointRight(2));
            }
            String whole = p.group(2);
            int zeros = p.group(3) == null ? 0 : p.group(3).length();
            int most = zeros + (p.group(4) == null ? 0 : p.group(4).length());
            v = v.setScale(most, RoundingMode.HALF_EVEN);
            String[] digits = v.abs().toPlainString().split("\\.");
            String fraction = digits.length > 1 ? digits[1] : "";
            while (fraction.length() > zeros && fraction.endsWith("0")) {
                fraction = fraction.substring(0, fraction.length() - 1);
            }
            String front = digits[0].equals("0") ? "" : digits[0];
            int least = whole.replaceAll("[^0]", "").length();
            least = least == 0 && fraction.isEmpty() ? 1 : least;
            while (front.length() < least) {
                front = "0" + front;
            }
            int comma = whole.lastIndexOf(',');
            if (comma >= 0) {
                int g = whole.length() - comma - 1;
                front = new StringBuilder(new StringBuilder(front).reverse().toString()
                    .replaceAll("(.{" + g + "})(?=.)", "$1,")).reverse().toString();
            }
            output = (v.signum() < 0 ? "-" : "") + p.group(1) + front + (fraction.isEmpty() ? "" : "." + fraction) + p.group(5);
            return output.length();
        }

        private int letters(int r, int style) {
            index(r, 8);
            index(style, 5);
            check(type[r] >= 1 && type[r] <= 7, new IllegalStateException());
            BigInteger n = exact[r].toBigInteger();
            String s = n.toString();
            if ((style == 1 || style == 2) && n.signum() > 0) {
                s = alphabet(n.longValueExact());
            } else if (style >= 3 && n.signum() > 0 && n.compareTo(BigInteger.valueOf(3999)) <= 0) {
                s = roman(n.intValueExact());
            }
            output = style == 2 || style == 4 ? s.toUpperCase() : s;
            return output.length();
        }

        private static String alphabet(long n) {
            return n == 0 ? "" : alphabet((n - 1) / 26) + (char) ('a' + (n - 1) % 26);
        }

        private static String roman(int n) {
            String[] ones = {"", "i", "ii", "iii", "iv", "v", "vi", "vii", "viii", "ix"};
            String[] tens = {"", "x", "xx", "xxx", "xl", "l", "lx", "lxx", "lxxx", "xc"};
            String[] hundreds = {"", "c", "cc", "ccc", "cd", "d", "dc", "dcc", "dccc", "cm"};
            String[] thousands = {"", "m", "mm", "mmm"};
            return thousands[n / 1000] + hundreds[n / 100 % 10] + tens[n / 10 % 10] + ones[n % 10];
        }
    }
}
