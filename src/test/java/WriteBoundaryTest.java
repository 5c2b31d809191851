import java.math.BigDecimal;

/** Each sentence that names a boundary of asking, writing, pictures, letters and the output (promises 10 to 16). */
public final class WriteBoundaryTest extends Bench {
    private static final double BELOW_LIMIT = 999999999999999.875;

    public static void main(String[] args) {
        asking();
        writingExact();
        writingBounds();
        writingDigits();
        writingPowers();
        pictureGrammar();
        pictureValues();
        pictureWholeParts();
        pictureCommas();
        pictureFractions();
        pictureSurroundings();
        lettersOfAlphabet();
        romanNumerals();
        outputs();
        end("boundaries of writing");
    }

    // ---- Promises 10, 11 and 12

    private static void asking() {
        under("10: the type of register r; NONE if it is empty or there is none such");
        due("before", forge.kind(0), -1);
        for (int type = 0; type < 10; type++) {
            for (int r = 0; r < 8; r++) {
                read("1", r, type);
                due("kind(" + r + ")", forge.kind(r), type);
            }
        }
        for (int r : new int[] {-1, 8, 9, Integer.MIN_VALUE, Integer.MAX_VALUE}) {
            due("kind(" + r + ")", forge.kind(r), -1);
        }
        under("11: register r as a double");
        reals("0.1", DECIMAL, 0.1);
        reals("-0.000001", DECIMAL, -1 / 1e6);
        reals("0", DECIMAL, 0.0);
        reals("123456789.123457", DECIMAL, 123456789123457.0 / 1e6);
        reals("-999999999999999", INTEGER, -999999999999999.0);
        reals("255", UNSIGNED_BYTE, 255.0);
        reals("0.1", FLOAT, (double) 0.1f);
        reals("-0", FLOAT, -0.0);
        reals("-0", DOUBLE, -0.0);
        reals("-INF", DOUBLE, -INFINITE);
        under("12: u and s of the exact value; 0 if it holds none, for another part, and if there is no such register");
        read("-12.345678", 7, DECIMAL);
        due("u", forge.exact(7, 0), -12345678L);
        due("s", forge.exact(7, 1), 6L);
        for (int part : new int[] {-1, 2, Integer.MIN_VALUE, Integer.MAX_VALUE}) {
            due("part " + part, forge.exact(7, part), 0L);
        }
        for (int r : new int[] {-1, 8, 0, Integer.MIN_VALUE, Integer.MAX_VALUE}) {
            due("u of " + r, forge.exact(r, 0), 0L);
            due("s of " + r, forge.exact(r, 1), 0L);
        }
        for (int type = INTEGER; type <= POSITIVE; type++) {
            read("100", 0, type);
            due("u and s", forge.exact(0, 0) + "/" + forge.exact(0, 1), "100/0");
        }
        for (int type = FLOAT; type <= DOUBLE; type++) {
            due("a floating one after an exact one", read("12.5", 7, type) + forge.exact(7, 0) + forge.exact(7, 1), "done00");
        }
    }

    private static void reals(String s, int type, double want) {
        due("reading " + s, read(s, 7, type), "done");
        due(s + " as a double", calling("real", 7), "" + want);
    }

    // ---- Promise 13

    private static void writingExact() {
        under("13: - if below 0, the whole part, and if the scale is above 0, . and as many digits as that");
        writes("0", DECIMAL, "0");
        writes("-0", DECIMAL, "0");
        writes("1", BYTE, "1");
        writes("-1", BYTE, "-1");
        writes("0.5", DECIMAL, "0.5");
        writes("-0.5", DECIMAL, "-0.5");
        writes("0.000001", DECIMAL, "0.000001");
        writes("-0.000001", DECIMAL, "-0.000001");
        writes("1.05", DECIMAL, "1.05");
        writes("10.5", DECIMAL, "10.5");
        writes("12.500", DECIMAL, "12.5");
        writes("100", DECIMAL, "100");
        writes("100000000000000", INTEGER, "100000000000000");
        writes("999999999999999", POSITIVE, "999999999999999");
        writes("-999999999.999999", DECIMAL, "-999999999.999999");
        under("13: INF, -INF, 0, -0");
        for (int type = FLOAT; type <= DOUBLE; type++) {
            writes("INF", type, "INF");
            writes("-INF", type, "-INF");
            writes("0", type, "0");
            writes("-0", type, "-0");
        }
    }

    private static void writingBounds() {
        under("13: d from 1 / TEN(8) to below TEN(15)");
        for (int sign = -1; sign <= 1; sign += 2) {
            String minus = sign < 0 ? "-" : "";
            writesDouble(sign * 1e-8, minus + "1.0E-8");
            writesDouble(sign * Math.nextDown(1e-8), LIMIT);
            writesDouble(sign * Math.nextUp(1e-8), minus + "1.0E-8");
            writesDouble(sign * Double.MIN_VALUE, LIMIT);
            writesDouble(sign * 999999999999999.0, minus + "9.99999999999999E14");
            writesDouble(sign * BELOW_LIMIT, minus + "1.0E15");
            writesDouble(sign * 1e15, LIMIT);
            writesDouble(sign * Double.MAX_VALUE, LIMIT);
            // The float that is nearest to 1 / TEN(8) lies below it.
            writesFloat(sign * 1e-8f, LIMIT);
            writesFloat(sign * Math.nextUp(1e-8f), minus + "1.0000001E-8");
            writesFloat(sign * 1e15f, minus + "1.0E15");
            writesFloat(sign * Math.nextUp(1e15f), LIMIT);
            writesFloat(sign * Float.MAX_VALUE, LIMIT);
            writesFloat(sign * Float.MIN_VALUE, LIMIT);
        }
        under("13: as an exact number if d is from 1 / TEN(6) to below TEN(6)");
        writesDouble(1e-6, "0.000001");
        writesDouble(Math.nextDown(1e-6), "1.0E-6");
        writesDouble(Math.nextUp(1e-6), "0.000001");
        writesDouble(-1e-6, "-0.000001");
        writesFloat(1e-6f, "1.0E-6");
        writesFloat(Math.nextUp(1e-6f), "0.0000010000001");
        writesDouble(999999.0, "999999");
        writesDouble(999999.5, "999999.5");
        writesDouble(Math.nextDown(1e6), "1000000");
        writesDouble(1e6, "1.0E6");
        writesDouble(1000000.5, "1.0000005E6");
        writesDouble(-Math.nextDown(1e6), "-1000000");
        writesFloat(Math.nextDown(1e6f), "999999.94");
        writesFloat(1e6f, "1.0E6");
        writesDouble(0.00000123456789012345, "0.00000123456789012345");
    }

    private static void writingDigits() {
        under("13: the first n for which BACK is d counts");
        writesDouble(0.1, "0.1");
        writesDouble(0.3, "0.3");
        writesDouble(1.1, "1.1");
        writesDouble(5e-7, "5.0E-7");
        writesDouble(12345.678, "12345.678");
        writesDouble(0.123456789012345, "0.123456789012345");
        writesDouble(123456.789012345, "123456.789012345");
        writesDouble(0.12345678901234, "0.12345678901234");
        writesFloat(0.1f, "0.1");
        writesFloat(1.1f, "1.1");
        writesFloat(1 / 3f, "0.33333334");
        writesFloat(16777215f, "1.6777215E7");
        writesFloat(16777216f, "1.6777216E7");
        writesFloat(1.2345678f, "1.2345678");
        under("13: or the last one, 15, if none does");
        writesDouble(0.1 + 0.2, "0.3");
        writesDouble(1 / 3.0, "0.333333333333333");
        writesDouble(2 / 3.0, "0.666666666666667");
        writesDouble(0.1234567890123456, "0.123456789012346");
        writesDouble(9.999999999999998, "10");
        writesDouble(-99.99999999999999, "-100");
        under("13: for FLOAT 8");
        writesFloat(0.103401184f, "0.10340118");
        writesFloat(118227.516f, "118227.52");
        writesDouble(0.103401184f, "0.103401184082031");
        writesDouble(118227.516f, "118227.515625");
        under("13: m is d * TEN(-q), HALF EVEN to a whole number");
        writesDouble(346.0000000042565, "346.000000004256");
        writesDouble(226.0000000781875, "226.000000078188");
        // This double lies above the half, its product with 10^12 is the half.
        writesDouble(408.28500000001253, "408.285000000012");
        under("13: zeros at the end of m go");
        writesDouble(100, "100");
        writesDouble(1500, "1500");
        writesDouble(100000, "100000");
        writesDouble(1200000, "1.2E6");
        writesDouble(99999999999999.99, "1.0E14");
    }

    private static void writingPowers() {
        under("13: e is the greatest whole number with TEN(e) not above d");
        for (int e = -8; e <= 14; e++) {
            for (String digits : new String[] {"1.0", "1.00000000000001", "9.99999999999999"}) {
                String number = digits + "E" + e;
                String want = e >= -6 && e < 6 ? new BigDecimal(number).stripTrailingZeros().toPlainString() : number;
                writesDouble(Double.parseDouble(number), want);
                writesDouble(-Double.parseDouble(number), "-" + want);
            }
        }
        under("13: else as the first digit of m, ., the others of m or 0 if there are none, E, and the power of ten");
        writesDouble(2e6, "2.0E6");
        writesDouble(2.5e6, "2.5E6");
        writesDouble(-2.5e6, "-2.5E6");
        writesDouble(1234567, "1.234567E6");
        writesDouble(2.05e10, "2.05E10");
        writesDouble(9e-7, "9.0E-7");
        writesDouble(1.25e-7, "1.25E-7");
        writesDouble(-1.25e-8, "-1.25E-8");
        writesFloat(2.5e-7f, "2.5E-7");
        writesFloat(1e10f, "1.0E10");
    }

    // ---- Promise 14

    private static void pictureGrammar() {
        under("14: the text is a picture");
        for (String s : new String[] {"#", "0", "##", "00", "#0", "##00", "#,#", "0,0", "#,0", "#,##0", "##,#0,00", "0.", "#.", "0.0", "0.#",
            "0.0#", "0.00##", "#.#", "#.0", "a0", "a#", "0a", "0%", "0%%", "0a%b", "a-1 +0z", "$#", "1230", "9#9", "0.a", "0.0a", "0.#%",
            "-0", " 0 ", "~0~", "0/", "e0E", "#-", "0,000.", "0.0 ", "0&1", "!0", "$1#",
            "########################################", "0000000000000000000000000000000000000000",
            "aaaaaaaaaaaaaaaaaaaaaaaaaaaaaaaaaaaaaaa0", "0aaaaaaaaaaaaaaaaaaaaaaaaaaaaaaaaaaaaaaa",
            "0.00000000000000000000000000000000000000", "#.######################################"}) {
            due("'" + s + "' holds 5", ofFive(s).indexOf('5') >= 0, true);
        }
        under("14: the text is no picture");
        for (String s : new String[] {"", " ", "a", "123", "%", ".", ",", "#,", "0,", ",#", ",0", "a,0", "a,#", "0,a", "0,%", "0,.0", "#,.",
            "#,,#", "0,,0", "#,,0", "0,,", ",", ",,", "0#", "0,#", "#0#", "#,0#", ".0", ".#", "a.0", "..", "%0", "%#", "a%0", "0.#0", "0.0#0",
            "0.,", "0.,0", "0.0,0", "0.#,#", "0.0.", "0..0", "0.0.0", "0a0", "0a#", "0a,", "0a.", "0.0a0", "0.a#", "0.0a,", "0.#a.", "0%0",
            "0%#", "# #", "0 0", "0 .0", "0.0 0", "#a.#", "aaaaaaaaaaaaaaaaaaaaaaaaaaaaaaaaaaaaaaaa"}) {
            due("'" + s + "'", ofFive(s), ARGUMENT);
        }
        under("14: the text stays");
        read("5", 0, INTEGER);
        due("once", pictured("a0.0b", 0), "a5.0b");
        due("again", call("picture(0)") + outputText(), "5a5.0b");
    }

    private static String ofFive(String s) {
        fresh();
        due("reading", read("5", 0, INTEGER), "done");
        return pictured(s, 0);
    }

    private static void pictureValues() {
        under("14: the value is cast to DECIMAL");
        for (int type = DECIMAL; type <= DOUBLE; type++) {
            read("7", 1, type);
            due("of type " + type, pictured("0.0", 1), "7.0");
        }
        picturesDouble(0.1f, "0.########", "0.1");
        picturesDouble(0.0078125, "0.########", "0.007812");
        picturesDouble(0.0000025, "0.########", "0.000002");
        picturesDouble(-0.0, "0", "0");
        picturesDouble(1000000000.75, "0.0#", "1000000000.0");
        picturesDouble(BELOW_LIMIT, "0", "999999999999999");
        picturesDouble(1e15, "0", LIMIT);
        picturesDouble(-1e15, "0", LIMIT);
        picturesDouble(INFINITE, "0", ARITHMETIC);
        picturesDouble(-INFINITE, "0", ARITHMETIC);
        under("14: times 100 if the TAIL has a % (LIMIT)");
        pictures("0.125", "0.0%", "12.5%");
        pictures("0.125", "0.0 %", "12.5 %");
        pictures("0.125", "0.0a%b%", "12.5a%b%");
        pictures("0.125", "0.000a", "0.125a");
        pictures("-0.000001", "0.0000%", "-0.0001%");
        pictures("9999999999999", "0%", "999999999999900%");
        pictures("10000000000000", "0%", LIMIT);
        pictures("-10000000000000", "0%", LIMIT);
        pictures("10000000000000", "0", "10000000000000");
        pictures("9999999999999.99", "0%", "999999999999999%");
        pictures("99999999999999.9", "0%", LIMIT);
        pictures("999999999999.999", "0.0%", "99999999999999.9%");
        pictures("999999999.999999", "0.0000%", "99999999999.9999%");
        under("14: rounded HALF EVEN to as many digits behind the . as the picture has 0 and # there");
        pictures("0.499999", "0", "0");
        pictures("0.5", "0", "0");
        pictures("0.500001", "0", "1");
        pictures("1.5", "0", "2");
        pictures("2.5", "0", "2");
        pictures("-2.5", "0", "-2");
        pictures("-3.5", "0", "-4");
        pictures("0.005", "0.00", "0.00");
        pictures("0.015", "0.00", "0.02");
        pictures("0.025", "0.0#", "0.02");
        pictures("0.025001", "0.##", "0.03");
        pictures("0.995", "0.00", "1.00");
        pictures("0.985", "0.00", "0.98");
        pictures("9.9999", "0.0##", "10.0");
        pictures("999.5", "#,##0", "1,000");
        pictures("0.123456", "0.00000", "0.12346");
        pictures("0.123456", "0.000000", "0.123456");
        pictures("0.123456", "0.0000000", "0.1234560");
        pictures("99999999999999.5", "0", "100000000000000");
        pictures("0.005", "0%", "0%");
        pictures("0.015", "0%", "2%");
        pictures("0.00125", "0.0%", "0.1%");
    }

    private static void picturesDouble(double x, String s, String want) {
        fresh();
        forge.put(0, x, false);
        due(x + " by " + s, pictured(s, 0), want);
    }

    private static void pictureWholeParts() {
        under("14: - if it is below 0 then");
        pictures("-0.004", "0.00", "0.00");
        pictures("-0.005", "0.00", "0.00");
        pictures("-0.005001", "0.00", "-0.01");
        pictures("-0.5", "0", "0");
        pictures("-0.6", "0", "-1");
        pictures("-0.004", "0.0%", "-0.4%");
        pictures("-0.5", "#.0", "-.5");
        under("14: at least as many digits as the whole part has 0");
        pictures("5", "0", "5");
        pictures("5", "00", "05");
        pictures("5", "#00", "05");
        pictures("12", "00", "12");
        pictures("123", "00", "123");
        pictures("123", "#", "123");
        pictures("0", "00", "00");
        pictures("-5", "000", "-005");
        pictures("999999999999999", "0000000000000000", "0999999999999999");
        pictures("5", "0000000000000000000000000000000000000000", "0000000000000000000000000000000000000005");
        under("14: no digit for 0 if it has none, but one if there would be none behind a . either");
        pictures("0", "#", "0");
        pictures("0", "###", "0");
        pictures("0", "#.", "0");
        pictures("0", "#.#", "0");
        pictures("0", "#.0", ".0");
        pictures("0.04", "#.#", "0");
        pictures("0.05", "#.#", "0");
        pictures("0.06", "#.#", ".1");
        pictures("0.5", "#.#", ".5");
        pictures("0.5", "#", "0");
        pictures("0.5", "0.#", "0.5");
        pictures("0", "0.#", "0");
        pictures("1", "#.#", "1");
        pictures("0", "a#b", "a0b");
        pictures("0", "#.0b", ".0b");
    }

    private static void pictureCommas() {
        under("14: a , in each place that is a multiple of g digits before its end");
        pictures("1", "#,##0", "1");
        pictures("999", "#,##0", "999");
        pictures("1000", "#,##0", "1,000");
        pictures("999999", "#,##0", "999,999");
        pictures("1000000", "#,##0", "1,000,000");
        pictures("999999999999999", "#,##0", "999,999,999,999,999");
        pictures("-1000", "#,##0", "-1,000");
        pictures("-100", "#,##0", "-100");
        pictures("5", "0,000", "0,005");
        pictures("5", "0000,000", "0,000,005");
        pictures("0", "#,###", "0");
        pictures("0.5", "#,###.0", ".5");
        under("14: g is the number of # and 0 behind the last ,");
        pictures("1234567", "#,#", "1,2,3,4,5,6,7");
        pictures("1234567", "#,0", "1,2,3,4,5,6,7");
        pictures("1234567", "#,##", "1,23,45,67");
        pictures("1234567", "#,#0", "1,23,45,67");
        pictures("1234567", "#,###,#0", "1,23,45,67");
        pictures("1234567", "#,##,###", "1,234,567");
        pictures("1234567", "0,0000", "123,4567");
        pictures("1234567", "#,#######", "1234567");
        pictures("1234567", "#,######", "1,234567");
        pictures("1234567.5", "#,##0.0000", "1,234,567.5000");
        under("14: none without a ,");
        pictures("1234567", "0", "1234567");
        pictures("1234567", "###0", "1234567");
        pictures("1234567", "a#b;", "a1234567b;");
    }

    private static void pictureFractions() {
        under("14: the fraction: as many as the picture has 0 there, and further ones up to the last that is not 0");
        pictures("1.5", "0.00##", "1.50");
        pictures("1.23", "0.00##", "1.23");
        pictures("1.234", "0.00##", "1.234");
        pictures("1.2345", "0.00##", "1.2345");
        pictures("1.20345", "0.00##", "1.2034");
        pictures("1.2004", "0.00##", "1.2004");
        pictures("1.20004", "0.00##", "1.20");
        pictures("1", "0.00##", "1.00");
        pictures("1.01", "0.##", "1.01");
        pictures("1.1", "0.##", "1.1");
        pictures("1.001", "0.##", "1");
        pictures("1.01", "0.#", "1");
        pictures("1.000001", "0.0#####", "1.000001");
        pictures("1.000001", "0.0####", "1.0");
        pictures("1.000001", "0.00000000", "1.00000100");
        under("14: ., if digits are due");
        pictures("1", "0.", "1");
        pictures("1", "0.#", "1");
        pictures("1", "0.a", "1a");
        pictures("1", "0.0a", "1.0a");
        pictures("1.5", "0.", "2");
    }

    private static void pictureSurroundings() {
        under("14: the HEAD behind the -, the TAIL at the end");
        pictures("-1234.5", "$ #,##0.00 EUR", "-$ 1,234.50 EUR");
        pictures("1234.5", "$ #,##0.00 EUR", "$ 1,234.50 EUR");
        pictures("-5", "a#b", "-a5b");
        pictures("-5", "-#-", "--5-");
        pictures("5", "  #  ", "  5  ");
        pictures("5", "123#456", "1235456");
        under("14: nothing of an earlier picture counts");
        read("1234.5678", 0, DECIMAL);
        due("one with all parts", pictured("a#,##0.0##%b", 0), "a123,456.78%b");
        due("one with a whole part", pictured("0", 0), "1235");
        due("one with a fraction", pictured("#.0", 0), "1234.6");
        due("one with a TAIL", pictured("#.#b", 0), "1234.6b");
        due("one with a whole part", pictured("#", 0), "1235");
        due("one with a whole part", pictured("000000", 0), "001235");
        due("one with a whole part", pictured("#", 0), "1235");
        under("14: the longest output");
        String zeros = "00000000000000000000000000000000000000,0";
        String written = zeros.replace(",", "").substring(1).replaceAll("0", "0,");
        pictures("-7", zeros, "-" + written + "7");
        String head = "aaaaaaaaaaaaaaaaaaaaaaaaaaaaaaaaaaaaa";
        pictures("-999999999999999", head + "#,#", "-" + head + "9,9,9,9,9,9,9,9,9,9,9,9,9,9,9");
    }

    // ---- Promise 15

    private static void lettersOfAlphabet() {
        under("15: a, b, .. z, aa, ab, .. for 1, 2, ..");
        letter("1", 1, "a");
        letter("2", 1, "b");
        letter("25", 1, "y");
        letter("26", 1, "z");
        letter("27", 1, "aa");
        letter("28", 1, "ab");
        letter("52", 1, "az");
        letter("53", 1, "ba");
        letter("676", 1, "yz");
        letter("677", 1, "za");
        letter("701", 1, "zy");
        letter("702", 1, "zz");
        letter("703", 1, "aaa");
        letter("704", 1, "aab");
        letter("18278", 1, "zzz");
        letter("18279", 1, "aaaa");
        letter("4294967297", 1, "mwlqkww");
        letter("146813779479510", 1, "zzzzzzzzzz");
        letter("146813779479511", 1, "aaaaaaaaaaa");
        letter("999999999999999", 1, "gbdpxgrzxjk");
        under("15: the same in A .. Z");
        letter("1", 2, "A");
        letter("26", 2, "Z");
        letter("27", 2, "AA");
        letter("703", 2, "AAA");
        letter("999999999999999", 2, "GBDPXGRZXJK");
        under("15: what a style has no way for is written as with 0");
        for (int style = 0; style < 5; style++) {
            letter("0", style, "0");
            letter("-1", style, "-1");
            letter("-999999999999999", style, "-999999999999999");
        }
        letter("1", 0, "1");
        letter("999999999999999", 0, "999999999999999");
        under("15: a value of the types 1 to 7");
        for (int type = INTEGER; type <= POSITIVE; type++) {
            read("9", 0, type);
            due("of type " + type, lettered(0, 0) + lettered(0, 1) + lettered(0, 2) + lettered(0, 3) + lettered(0, 4), "9iIixIX");
        }
    }

    private static void romanNumerals() {
        under("15: Roman numerals for 1 .. 3999");
        String[] numerals = {"1 i", "2 ii", "3 iii", "4 iv", "5 v", "6 vi", "8 viii", "9 ix", "10 x", "14 xiv", "19 xix", "39 xxxix",
            "40 xl", "41 xli", "49 xlix", "50 l", "89 lxxxix", "90 xc", "99 xcix", "100 c", "399 cccxcix", "400 cd", "444 cdxliv",
            "499 cdxcix", "500 d", "888 dccclxxxviii", "899 dcccxcix", "900 cm", "999 cmxcix", "1000 m", "1994 mcmxciv", "3000 mmm",
            "3888 mmmdccclxxxviii", "3998 mmmcmxcviii", "3999 mmmcmxcix"};
        for (String numeral : numerals) {
            String number = numeral.substring(0, numeral.indexOf(' '));
            String small = numeral.substring(numeral.indexOf(' ') + 1);
            letter(number, 3, small);
            letter(number, 4, small.toUpperCase());
        }
        // In 32 bits the last two would be 1 and 3999.
        for (String number : new String[] {"4000", "4001", "5000", "999999999999999", "4294967297", "4294971295"}) {
            letter(number, 3, number);
            letter(number, 4, number);
        }
    }

    // ---- Promise 16

    private static void outputs() {
        under("16: character k of the output; how many there are, if k is -1; NONE if there is none such");
        read("105", 0, INTEGER);
        due("writing", forge.write(0), 3);
        due("how many", forge.output(-1), 3);
        due("the first", forge.output(0), (int) '1');
        due("the second", forge.output(1), (int) '0');
        due("the last", forge.output(2), (int) '5');
        for (int k : new int[] {3, 4, 40, 127, 128, 129, -2, -3, Integer.MIN_VALUE, Integer.MAX_VALUE}) {
            due("output(" + k + ")", forge.output(k), -1);
        }
        under("16: the output is empty before each writing");
        read("12345", 0, INTEGER);
        due("a long one", written(0), "12345");
        read("7", 1, INTEGER);
        due("a short one", written(1), "7");
        due("nothing behind it", forge.output(1), -1);
        due("a picture", pictured("0.0", 1), "7.0");
        due("letters", lettered(1, 3), "vii");
        due("letters", lettered(1, 1), "g");
        due("a floating one", call("put(2, 0.5, false)") + written(2), "done0.5");
        due("a great one", call("put(2, 2.5e6, false)") + written(2), "done2.5E6");
        due("INF", call("put(2, Infinity, false)") + written(2), "doneINF");
    }
}
