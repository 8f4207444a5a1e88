/**
 * A boundary case of the document each: the tape, texts, their faults, collecting (Term 4 but for its acts, promises 13 to 18).
 * DocTest holds the words to it.
 */
public final class TextBoundsTest {
    private static final String BEGINS = " abcdefR([";

    private TextBoundsTest() {
    }

    public static void main(String[] args) {
        Check.runAll(TextBoundsTest.class);
    }

    /** The first group; R0 is a^999, R2 b^999, R5 c^999, R6 a^998, R3 a^333, R4 a^334, R7 a^40 b^25. */
    private static HallRegisters full() {
        HallRegisters x = new HallRegisters();
        Check.setRow(x, 0, 999, 0, 0);
        Check.setRow(x, 2, 0, 999, 0);
        Check.setRow(x, 5, 0, 0, 999);
        Check.setRow(x, 6, 998, 0, 0);
        Check.setRow(x, 3, 333, 0, 0);
        Check.setRow(x, 4, 334, 0, 0);
        Check.setRow(x, 7, 40, 25, 0);
        return x;
    }

    /** Behind a text that may go on, just the signs that are told can stand. */
    private static void signsDue(String text, String signs) {
        HallRegisters x = null;
        for (int sign = 0; sign < 256; sign++) {
            x = sign % 64 == 0 ? new HallRegisters() : x;
            Check.feedBytes(x, text + (char) sign);
            boolean made = x.text(0);
            boolean wrong = !made && x.fault(0) == 1 && x.fault(1) == text.length();
            Check.due("byte " + sign + " can't stand behind '" + text + "'", wrong, signs.indexOf(sign) < 0);
        }
    }

    // ---- Term 4: what is a text

    /** Term 4: "THE TAPE (200 bytes at most) is a word". */
    static void wordsOfTwoHundredBytes() {
        HallRegisters x = new HallRegisters();
        Check.textDue(x, "a".repeat(199) + "b", "199 1 0");
        Check.textDue(x, " ".repeat(199) + "a", "1 0 0");
        Check.textDue(x, "a" + " ".repeat(199), "1 0 0");
        Check.textDue(x, "((((((((" + "a".repeat(184) + "))))))))", "184 0 0");
        Check.faultDue(x, "a".repeat(199) + "g", 1, 199);
        Check.faultDue(x, "a".repeat(199) + "f", 3, 199);
        Check.faultDue(x, "a".repeat(199) + "(", 1, 200);
    }

    /** Term 4: "factor = letter a .. f". */
    static void whereAFactorMayBegin() {
        signsDue("", BEGINS);
        signsDue("(", BEGINS + ")");
        signsDue("[", BEGINS + ",");
        signsDue("[a,", BEGINS + ",]");
        signsDue("[,", BEGINS + ",]");
        signsDue("[,,", BEGINS + ",]");
    }

    /** Term 4: "{ factor [ "^" [ "-" ] digits ] }". */
    static void whereAPowerMayBe() {
        signsDue("a", BEGINS + "^");
        signsDue("R1", BEGINS + "^");
        signsDue("()", BEGINS + "^");
        signsDue("[,]", BEGINS + "^");
        signsDue("(a", BEGINS + "^)");
        signsDue("[a", BEGINS + "^,");
        signsDue("[a,b", BEGINS + "^,]");
        signsDue("a^", " -0123456789");
        signsDue("a^-", " 0123456789");
        signsDue("a^1", BEGINS + "0123456789");
        signsDue("a^1 ", BEGINS);
        signsDue("(a^-1", BEGINS + "0123456789)");
        signsDue("[a^1", BEGINS + "0123456789,");
    }

    /** Term 4: ""R" digit (a REGISTER, as it is)". */
    static void registersInTexts() {
        signsDue("R", "0123456789");
        HallRegisters x = new HallRegisters();
        Check.setRow(x, 0, 1, 0, 0);
        Check.setRow(x, 9, 0, 1, 0);
        Check.textDue(x, "R9R0", "1 1 1");
        Check.textDue(x, "R1R1", "2 2 3");
        Check.textDue(x, "R8", "0 0 0");
    }

    /** Term 4: ""[" word "," word { "," word } "]" (the COMMUTATOR of the first two, then of that and the next one ..)". */
    static void twoWordsOrMore() {
        HallRegisters x = Check.ofKind(1);
        Check.faultDue(x, "[]", 1, 1);
        Check.faultDue(x, "[a]", 1, 2);
        Check.textDue(x, "[,]", "0 0 0 0 0");
        Check.textDue(x, "[b,a]", "0 0 1 0 0");
        Check.textDue(x, "[b,a,a]", "0 0 0 1 0");
        Check.textDue(x, "[b,a,b]", "0 0 0 0 1");
        Check.textDue(x, "[b,[a,b]]", "0 0 0 0 1");
        Check.textDue(x, "[a,[b,a]]", "0 0 0 -1 0");
        Check.textDue(x, "[b,a,a,a]", "0 0 0 0 0");
        Check.textDue(x, "[b,a,]", "0 0 0 0 0");
        Check.textDue(x, "[b,a" + ",a".repeat(97) + "]", "0 0 0 0 0");
    }

    /** Term 4: "A word without factors is ONE." */
    static void wordsWithoutFactors() {
        HallRegisters x = new HallRegisters();
        Check.setRow(x, 1, 4, 5, 6);
        Check.textDue(x, "", "0 0 0");
        Check.setRow(x, 1, 4, 5, 6);
        Check.textDue(x, " ", "0 0 0");
        Check.textDue(x, "()", "0 0 0");
        Check.textDue(x, "a()b", "1 1 0");
        Check.textDue(x, "( )^99", "0 0 0");
        Check.textDue(x, "[,b]", "0 0 0");
        Check.textDue(x, "[a, ]", "0 0 0");
    }

    /** Term 4: "Digits as many as stand there, 0 .. 99 together." */
    static void numbersToNinetyNine() {
        HallRegisters x = new HallRegisters();
        Check.textDue(x, "a^0", "0 0 0");
        Check.textDue(x, "a^-0", "0 0 0");
        Check.textDue(x, "a^99", "99 0 0");
        Check.textDue(x, "a^-99", "-99 0 0");
        Check.textDue(x, "a^099", "99 0 0");
        Check.textDue(x, "a^" + "0".repeat(198), "0 0 0");
        Check.textDue(x, "a^" + "0".repeat(197) + "7", "7 0 0");
        Check.textDue(x, "a^" + "0".repeat(196) + "99", "99 0 0");
        Check.faultDue(x, "a^100", 2, 2);
        Check.faultDue(x, "a^" + "0".repeat(195) + "100", 2, 2);
        // 2 to the 32, 2 to the 64 and 2 to the 200, each and 1
        Check.faultDue(x, "a^4294967297", 2, 2);
        Check.faultDue(x, "a^18446744073709551617", 2, 2);
        Check.faultDue(x, "a^" + java.math.BigInteger.ONE.shiftLeft(200).add(java.math.BigInteger.ONE), 2, 2);
        Check.faultDue(x, "a^" + "9".repeat(198), 2, 2);
        Check.faultDue(x, "a^1" + "0".repeat(197), 2, 2);
    }

    /** Term 4: "Blanks (32) may stand ahead of all these". */
    static void blanksAheadOfAll() {
        HallRegisters x = new HallRegisters();
        Check.setRow(x, 9, 3, 0, 5);
        Check.textDue(x, " a", "1 0 0");
        Check.textDue(x, "  R9", "3 0 5");
        Check.textDue(x, " ( a ) ", "1 0 0");
        Check.textDue(x, " [ b , a , a ] ", "0 0 0");
        Check.textDue(x, "[b  ,  a  ]  ^  -  2", "0 0 -2");
        Check.textDue(x, "a ^2", "2 0 0");
        Check.textDue(x, "a^ 2", "2 0 0");
        Check.textDue(x, "a^ -2", "-2 0 0");
        Check.textDue(x, "a^- 2", "-2 0 0");
        Check.textDue(x, "a ^ - 2 b", "-2 1 0");
    }

    /** Term 4: "(not between R and its digit, nor between digits)". */
    static void noBlanksWithin() {
        HallRegisters x = new HallRegisters();
        Check.faultDue(x, "R 9", 1, 1);
        Check.faultDue(x, "R  9", 1, 1);
        Check.faultDue(x, "a^1 2", 1, 4);
        Check.faultDue(x, "a^0 1", 1, 4);
        Check.faultDue(x, "a^9 9", 1, 4);
    }

    /** Term 4: "and at the end". */
    static void blanksAtTheEnd() {
        HallRegisters x = new HallRegisters();
        Check.textDue(x, "a ", "1 0 0");
        Check.textDue(x, "a^2 ", "2 0 0");
        Check.textDue(x, "(a)   ", "1 0 0");
        Check.textDue(x, "R9 ", "0 0 0");
        Check.faultDue(x, "a^ ", 1, 3);
        Check.faultDue(x, "(a ", 1, 3);
        Check.faultDue(x, "[a, ", 1, 4);
    }

    /** Term 4: "All factors of a word are multiplied from left to right." */
    static void fromLeftToRight() {
        HallRegisters x = new HallRegisters();
        Check.textDue(x, "ab", "1 1 0");
        Check.textDue(x, "ba", "1 1 1");
        Check.textDue(x, "ab^3a", "2 3 3");
        Check.textDue(x, "a(ba)b^-1", "2 0 1");
        Check.textDue(x, "ab^2", "1 2 0");
        Check.textDue(x, "(ab)^2", "2 2 1");
    }

    // ---- Term 4: faults

    /** Term 4: "the first by its place (from 0; the end: THE TAPE's length)". */
    static void theFirstFault() {
        HallRegisters x = full();
        Check.faultDue(x, "g f", 1, 0);
        Check.faultDue(x, "f g", 3, 0);
        Check.faultDue(x, "a^100R0R0", 2, 2);
        Check.faultDue(x, "R0R0a^100", 5, 4);
        Check.faultDue(x, "R0fR0R0", 3, 2);
        Check.faultDue(x, "R0R0f", 5, 4);
        Check.faultDue(x, "(((((((((g", 4, 8);
        Check.faultDue(x, "((((((((g(", 1, 8);
        Check.faultDue(x, "R0^2(((((((((", 5, 4);
        Check.faultDue(x, "(((((((((R0^2", 4, 8);
        Check.faultDue(x, "(", 1, 1);
        Check.faultDue(x, "a^", 1, 2);
        Check.faultDue(x, "R", 1, 1);
        Check.faultDue(x, "[a,b", 1, 4);
        Check.faultDue(x, "(" + " ".repeat(199), 1, 200);
        Check.faultDue(x, "R0" + " ".repeat(196) + "R0", 5, 200);
    }

    /** Term 4: "at one place 5 ahead of all others (it is of what stands ahead of it)". */
    static void overAheadOfAllOthers() {
        HallRegisters x = full();
        Check.faultDue(x, "R0ag", 5, 3);
        Check.faultDue(x, "R0a)", 5, 3);
        Check.faultDue(x, "R0a,", 5, 3);
        Check.faultDue(x, "R0ad", 5, 3);
        Check.faultDue(x, "(R0a", 5, 4);
        Check.faultDue(x, "(R0a]", 5, 4);
        Check.faultDue(x, "R0^2^2", 5, 4);
        Check.faultDue(x, "R0^2d", 5, 4);
        Check.faultDue(x, "((((((((R0a(", 5, 11);
        Check.faultDue(x, "((((((((R0^2[", 5, 12);
        Check.faultDue(x, "[R0,bb", 5, 6);
        Check.faultDue(x, "[R0,bb)", 5, 6);
        Check.faultDue(x, "[R0,bbg", 5, 6);
    }

    /** Term 4: "else the least". */
    static void elseTheLeastFault() {
        HallRegisters x = new HallRegisters();
        Check.faultDue(x, "a^d", 1, 2);
        Check.faultDue(x, "Rd", 1, 1);
        Check.faultDue(x, "a^-f", 1, 3);
        Check.faultDue(x, "((((((((a^(", 1, 10);
        Check.faultDue(x, "((((((((R[", 1, 9);
        Check.faultDue(x, "100", 1, 0);
        Check.faultDue(x, "R1100", 1, 2);
        Check.faultDue(x, "a^1 100", 1, 4);
        Check.faultDue(x, "a^--100", 1, 3);
    }

    /** Term 4: "1 what can't stand there". */
    static void whatCannotStandThere() {
        HallRegisters x = new HallRegisters();
        Object[][] faults = {{"g", 0}, {"A", 0}, {"~", 0}, {"r1", 0}, {"-a", 0}, {"^2", 0}, {")", 0}, {"]", 0}, {",", 0}, {"a b,", 3},
            {"a^2^3", 3}, {"a^+1", 2}, {"(a,b)", 2}, {"(a]", 2}, {"[a,b)", 4}, {"a)", 1}, {"(a))", 3}, {"[a,b]]", 5},
            {"[a,(b]", 5}, {"([a,b)", 5}, {"[(a,b)]", 3}, {"R:", 1}, {"R/", 1}, {"a^:", 2}, {"a^/", 2}, {"a\t", 1}, {"\n", 0}};
        for (Object[] fault : faults) {
            Check.faultDue(x, (String) fault[0], 1, (Integer) fault[1]);
        }
        Check.due("OVER", x.look(8), 0);
    }

    /** Term 4: "2 a number above 99 (at its first digit)". */
    static void atTheFirstDigit() {
        HallRegisters x = new HallRegisters();
        Check.faultDue(x, "a^100", 2, 2);
        Check.faultDue(x, "a ^ - 0100", 2, 6);
        Check.faultDue(x, "a^999g", 2, 2);
        Check.faultDue(x, "a^100^", 2, 2);
        Check.faultDue(x, "(a^100", 2, 3);
        Check.faultDue(x, "R0^100", 2, 3);
        Check.faultDue(x, "()^-100", 2, 4);
    }

    /** Term 4: "3 a letter of no GENERATOR". */
    static void lettersOfNoGenerator() {
        for (int n = 1; n <= 6; n++) {
            HallRegisters x = Check.of("111111".substring(0, n));
            for (int letter = 0; letter < 6; letter++) {
                String text = " " + (char) ('a' + letter);
                Check.due("text " + text + " of " + n, Check.read(x, 0, text), letter < n ? 0 : 3001);
            }
            Check.due("text g of " + n, Check.read(x, 0, " g"), 1001);
        }
    }

    /** Term 4: "4 a ( or [ that is open with eight others". */
    static void eightOpenAtMost() {
        HallRegisters x = new HallRegisters();
        Check.textDue(x, "((((((((a))))))))", "1 0 0");
        Check.textDue(x, "[[[[[[[[b,a],a],a],a],a],a],a],a]", "0 0 0");
        Check.textDue(x, "[,[,[,[,[,[,[,[,]]]]]]]]", "0 0 0");
        Check.textDue(x, "[([([([(b),a]),a]),a]),a]", "0 0 0");
        Check.textDue(x, "((((((((a))))))))((((((((b))))))))", "1 1 0");
        Check.textDue(x, "(((((((()[,]()a)))))))", "1 0 0");
        Check.faultDue(x, "(((((((((a)))))))))", 4, 8);
        Check.faultDue(x, "[[[[[[[[[", 4, 8);
        Check.faultDue(x, "(((((((([", 4, 8);
        Check.faultDue(x, "[[[[[[[[(", 4, 8);
        Check.faultDue(x, "[,[,[,[,[,[,[,[,[", 4, 16);
        Check.faultDue(x, "((((((((a)(a(", 4, 12);
        Check.faultDue(x, "((((((((a))))))))(((((((( (", 4, 26);
    }

    /** Term 4: "a POWER". */
    static void overPowers() {
        HallRegisters x = full();
        Check.textDue(x, "R3^3", "999 0 0");
        Check.textDue(x, "R3^-3", "-999 0 0");
        Check.textDue(x, "R0^1", "999 0 0");
        Check.textDue(x, "R0^-1", "-999 0 0");
        Check.textDue(x, "R0^0", "0 0 0");
        Check.faultDue(x, "R4^3", 5, 4);
        Check.faultDue(x, "R4^-3", 5, 5);
        Check.faultDue(x, "R0^2", 5, 4);
        Check.faultDue(x, "R7^-1", 5, 5);
        Check.faultDue(x, "R0^2R0^-2", 5, 4);
        Check.faultDue(x, "(R0^2)^0", 5, 5);
    }

    /** Term 4: "a PRODUCT of a word's factors so far". */
    static void overProducts() {
        HallRegisters x = full();
        Check.textDue(x, "R6a", "999 0 0");
        Check.textDue(x, "aR6", "999 0 0");
        Check.textDue(x, "R0R2", "999 999 0");
        Check.faultDue(x, "R0a", 5, 3);
        Check.faultDue(x, "aR0", 5, 3);
        Check.faultDue(x, "R5c", 5, 3);
        Check.faultDue(x, "R0^-1a^-1", 5, 9);
        Check.faultDue(x, "R6aaa^-2", 5, 4);
        Check.textDue(x, "R6(aaa^-2)", "998 0 0");
        Check.faultDue(x, "R2R0", 5, 4);
        Check.faultDue(x, "(R0a)^0", 5, 4);
        Check.faultDue(x, "[R0a,]", 5, 4);
    }

    /** Term 4: "a COMMUTATOR". */
    static void overCommutators() {
        HallRegisters x = full();
        Check.textDue(x, "[R0,b]", "0 0 -999");
        Check.textDue(x, "[b,R0]", "0 0 999");
        Check.textDue(x, "[R0R2,R0R2]", "0 0 0");
        Check.faultDue(x, "[R0,bb]", 5, 6);
        Check.faultDue(x, "[bb,R0]", 5, 6);
        Check.faultDue(x, "[R0,bb]^0", 5, 6);
        Check.faultDue(x, "[R0,bb,a]", 5, 6);
        x = Check.of("1123", "213:1", "314:1");
        Check.setRow(x, 7, 0, 500, 0, 0);
        Check.textDue(x, "[R7,a]", "0 0 500 0");
        Check.textDue(x, "[R7,a,a]", "0 0 0 500");
        Check.faultDue(x, "[R7,a,aa]", 5, 8);
        Check.faultDue(x, "[R7,a,aa,a]", 5, 8);
    }

    /** Term 4: "(each, as soon as it is there)". */
    static void asSoonAsItIsThere() {
        HallRegisters x = full();
        Check.textDue(x, "R0a^-1", "998 0 0");
        Check.textDue(x, "R0a^0", "999 0 0");
        Check.textDue(x, "R0a ^ - 99", "900 0 0");
        Check.textDue(x, "[R0,bb^-1]", "0 0 0");
        Check.textDue(x, "[R0,b b ^-1]", "0 0 0");
        Check.faultDue(x, "R0aa^-1", 5, 3);
        Check.faultDue(x, "R0a^100", 2, 4);
        Check.faultDue(x, "R0a^g", 1, 4);
        Check.faultDue(x, "R0a^", 1, 4);
        Check.faultDue(x, "R0(a", 1, 4);
        Check.faultDue(x, "R0(ag", 1, 4);
        Check.faultDue(x, "[R0,bbd", 3, 6);
        Check.faultDue(x, "[R0,bb^", 1, 7);
        Check.faultDue(x, "[R0,b", 1, 5);
        Check.faultDue(x, "[R0,bb]R0R0", 5, 6);
    }

    /** Term 4: "(at the place behind it: behind the last byte of the power, the factor, the word in [ ] that it is of)". */
    static void behindTheLastByte() {
        HallRegisters x = full();
        Check.faultDue(x, "R0 ^ 2   b", 5, 6);
        Check.faultDue(x, "R0^002 b", 5, 6);
        Check.faultDue(x, "(R0) ^ - 2  ", 5, 10);
        Check.faultDue(x, "R0 a   b", 5, 4);
        Check.faultDue(x, "R0 a   ", 5, 4);
        Check.faultDue(x, "R0 a   g", 5, 4);
        Check.faultDue(x, "R0 ( a )   g", 5, 8);
        Check.faultDue(x, "R5 [ b , a ]   g", 5, 12);
        Check.faultDue(x, "R0 R0  ", 5, 5);
        Check.faultDue(x, "R0 a ^ 2   g", 5, 8);
        Check.faultDue(x, "R0(a^2)", 5, 7);
        Check.faultDue(x, "[ R0 , b b   ]", 5, 10);
        Check.faultDue(x, "[ R0 , b ^ 2   , a ]", 5, 12);
        Check.faultDue(x, "[ R0 , ( b b )   g", 5, 14);
    }

    // ---- promises 13 and 14

    /** Promise 13: "four of each number, the highest first". */
    static void bytesOfNumbers() {
        HallRegisters x = new HallRegisters();
        Check.due("feed", x.feed(0x61626363, 0x63626261, 0x20202020, 0x20202020, 0x20202062), 20);
        Check.due("text", x.text(0), true);
        Check.rowDue(x, "abcccbba b", 0, "2 4 6");
        int[][] wrong = {{0xE1626363, 0}, {0x61E26363, 1}, {0x6162E363, 2}, {0x616263E3, 3}, {0x00616263, 0}, {0x61FFFFFF, 1}};
        for (int[] number : wrong) {
            Check.due("feed", x.feed(number[0], 0, 0, 0, 0), 20);
            Check.due("text", x.text(0), false);
            Check.due("fault(0)", x.fault(0), 1);
            Check.due("fault(1)", x.fault(1), number[1]);
        }
        for (int number = 0; number < 5; number++) {
            int[] n = {0x20202020, 0x20202020, 0x20202020, 0x20202020, 0x20202020};
            n[number] = Integer.MIN_VALUE;
            Check.due("feed", x.feed(n[0], n[1], n[2], n[3], n[4]), 20);
            Check.due("text", x.text(0), false);
            Check.due("fault(1)", x.fault(1), 4 * number);
        }
    }

    /** Promise 13: "how many it has". */
    static void bytesOfTheTape() {
        HallRegisters x = new HallRegisters();
        for (int bytes = 20; bytes <= 200; bytes += 20) {
            Check.due("feed", x.feed(-1, Integer.MIN_VALUE, Integer.MAX_VALUE, 0, 1), bytes);
            Check.due("look(7)", x.look(7), bytes);
        }
    }

    /** Promise 13: "NONE, and none come, if there would be more than 200." */
    static void noMoreThanTwoHundred() {
        HallRegisters x = new HallRegisters();
        Check.feed(x, "a".repeat(200));
        Check.due("feed of the full TAPE", x.feed(0, 0, 0, 0, 0), -1);
        Check.due("look(7)", x.look(7), 200);
        Check.due("text", x.text(0), true);
        Check.rowDue(x, "none came", 0, "200 0 0");
        Check.feed(x, "a".repeat(181));
        Check.due("feed of 181", x.feed(0, 0, 0, 0, 0), -1);
        Check.due("look(7)", x.look(7), 181);
        Check.due("end(180)", x.end(180), true);
        Check.due("feed of 180", x.feed(0x62626262, 0x62626262, 0x62626262, 0x62626262, 0x62626262), 200);
        Check.due("text", x.text(0), true);
        Check.rowDue(x, "twenty came", 0, "180 20 0");
        Check.due("ACTS", x.look(6), 2);
    }

    /** Promise 14: "true; false if it has not so many, or n is below 0." */
    static void endWithinTheTape() {
        HallRegisters x = new HallRegisters();
        Check.due("end(0) of none", x.end(0), true);
        Check.due("end(1) of none", x.end(1), false);
        Check.due("end(-1) of none", x.end(-1), false);
        Check.feed(x, "aaaaab");
        for (int n : new int[] {7, 20, 200, 201, -1, Integer.MIN_VALUE, Integer.MAX_VALUE}) {
            Check.due("end(" + n + ") of 6", x.end(n), false);
            Check.due("look(7)", x.look(7), 6);
        }
        Check.due("end(6) of 6", x.end(6), true);
        Check.due("look(7)", x.look(7), 6);
        Check.due("end(5) of 6", x.end(5), true);
        Check.due("end(6) of 5", x.end(6), false);
        Check.due("feed behind", x.feed(0x62622020, 0x20202020, 0x20202020, 0x20202020, 0x20202020), 25);
        Check.due("text", x.text(0), true);
        Check.rowDue(x, "its first five alone, then twenty", 0, "5 2 0");
        Check.feed(x, "a".repeat(200));
        Check.due("end(200) of 200", x.end(200), true);
        Check.due("end(201) of 200", x.end(201), false);
        Check.due("end(0) of 200", x.end(0), true);
        Check.due("look(7)", x.look(7), 0);
    }

    // ---- promises 15 and 16

    /** Promise 15: "THE TAPE (empty then) is a TEXT". */
    static void textEmptiesTheTape() {
        HallRegisters x = full();
        for (String text : new String[] {"", "a", "g", "a^100", "d", "(((((((((", "R0R0"}) {
            Check.feed(x, text);
            x.text(1);
            Check.due("look(7) behind " + text, x.look(7), 0);
        }
        Check.feed(x, "a");
        Check.due("text(10)", x.text(10), false);
        Check.due("look(7) behind text(10)", x.look(7), 0);
        Check.due("text(1), of nothing", x.text(1), true);
        Check.rowDue(x, "text(1), of nothing", 1, "0 0 0");
        x = Check.notConsistent();
        Check.feed(x, "a");
        Check.due("not CONSISTENT text(1)", x.text(1), false);
        Check.due("look(7)", x.look(7), 0);
    }

    /** Promise 15: "false if there is a FAULT". */
    static void faultsChangeNoRegister() {
        HallRegisters x = full();
        Check.setRow(x, 1, 4, 5, 6);
        int acts = x.look(6);
        String before = Check.state(x);
        for (String text : new String[] {"ag", "aa^100", "ad", "a(((((((((", "aR0", "a("}) {
            Check.due("text " + text, Check.read(x, 1, text) > 0, true);
        }
        Check.due("all as before", Check.state(x), before);
        Check.due("ACTS", x.look(6), acts);
        Check.due("only FAULT 5 is counted", x.look(8), 1);
    }

    /** Promise 15: "or no such REGISTER, or it is not CONSISTENT (then fault() is as without one)". */
    static void withoutARegister() {
        HallRegisters x = full();
        String before = Check.state(x);
        for (int no : new int[] {-1, 10, Integer.MIN_VALUE, Integer.MAX_VALUE}) {
            Check.faultDue(x, "a^100", 2, 2);
            Check.feed(x, no < 0 ? "R0R0" : "a");
            Check.due("text(" + no + ")", x.text(no), false);
            Check.due("fault(0)", x.fault(0), 0);
            Check.due("fault(1)", x.fault(1), -1);
            Check.due("look(7)", x.look(7), 0);
        }
        Check.due("all as before", Check.state(x), before);
        Check.due("OVER", x.look(8), 0);
        x = Check.ofKind(2);
        Check.faultDue(x, "g", 1, 0);
        Check.due("tail", x.tail(4, 2, 6, 0), true);
        Check.due("fault(0)", x.fault(0), 1);
        Check.feed(x, "g");
        Check.due("not CONSISTENT text(0)", x.text(0), false);
        Check.due("fault(0)", x.fault(0), 0);
        Check.due("fault(1)", x.fault(1), -1);
    }

    /** Promise 16: "Of the latest text() what 0 FAULT (0 without), 1 its place (NONE)." */
    static void faultOfTheLatestText() {
        HallRegisters x = new HallRegisters();
        Check.due("fault(0) ahead of any", x.fault(0), 0);
        Check.due("fault(1) ahead of any", x.fault(1), -1);
        Check.faultDue(x, " d", 3, 1);
        Check.due("collect", Check.collect(x, "gg"), -1);
        Check.due("set", x.set(0, 1, 1), true);
        Check.due("fault(0) still", x.fault(0), 3);
        Check.due("fault(1) still", x.fault(1), 1);
        Check.faultDue(x, "g", 1, 0);
        Check.textDue(x, "a", "1 0 0");
        Check.due("fault(0) without", x.fault(0), 0);
        Check.due("fault(1) without", x.fault(1), -1);
    }

    /** Promise 16: "NONE for another what." */
    static void noOtherFault() {
        HallRegisters x = new HallRegisters();
        Check.faultDue(x, " d", 3, 1);
        for (int what : new int[] {-1, 2, Integer.MIN_VALUE, Integer.MAX_VALUE}) {
            Check.due("fault(" + what + ")", x.fault(what), -1);
        }
    }

    // ---- promises 17 and 18

    /** Promise 17: "THE TAPE (empty then)". */
    static void collectEmptiesTheTape() {
        HallRegisters x = new HallRegisters();
        for (String word : new String[] {"", "ba", "g", "a".repeat(200)}) {
            Check.collect(x, word);
            Check.due("look(7) behind " + word, x.look(7), 0);
        }
        x = Check.of("11223", "315:3");
        Check.due("too long", Check.collect(x, "cccccccbbbbbaaaaaaa"), -2);
        Check.due("look(7) behind one too long", x.look(7), 0);
        Check.due("of nothing", x.collect(), 0);
    }

    /** Promise 17: "letters a .. f of GENERATORS (24 at most) and nothing else". */
    static void twentyFourLetters() {
        HallRegisters x = new HallRegisters();
        Check.collectDue(x, "", 0, "0 0 0 - - -");
        Check.collectDue(x, "a".repeat(24), 0, "24 0 0 - - -");
        for (String word : new String[] {"a".repeat(25), "a".repeat(200), "d", "f", "g", "`", "A", " ", "ab c", "a ", "R0", "a^2", "(a)",
            "~", "\0"}) {
            Check.due("collect " + word, Check.collect(x, word), -1);
        }
        Check.due("collected is as it was", Check.collectedRow(x), "24 0 0 - - -");
        for (int n = 1; n <= 6; n++) {
            x = Check.of("111111".substring(0, n));
            for (int letter = 0; letter < 7; letter++) {
                Check.due("a letter of " + n, Check.collect(x, "" + (char) ('a' + letter)), letter < n ? 0 : -1);
            }
        }
    }

    /** Promise 17: "COLLECTED (in any GROUP)". */
    static void collectedInAnyGroup() {
        HallRegisters x = Check.notConsistent();
        Check.collectDue(x, "cba", 4, "1 1 1 1 1 1");
        Check.collectDue(x, "eda", 3, "1 0 0 1 1 1");
        Check.collectDue(Check.of("333333"), "fedcba", 15, "1 1 1 1 1 1");
        Check.collectDue(Check.of("1"), "aa", 0, "2 - - - - -");
    }

    /** Promise 17: "how many EXCHANGES; NONE if it is not so, or NONE - 1 if it takes more than 1000". */
    static void aThousandExchanges() {
        // LimitsTest collects these words literally
        HallRegisters x = Check.of("11223", "315:1");
        Check.due("1000", Check.collect(x, "ccccccccbbaaaaaaaaaaaa"), 1000);
        x = Check.of("11223", "215:1");
        Check.due("1000", Check.collect(x, "cccccbbbbbaaaaaaaaaaaaa"), 1000);
        x = Check.of("11223", "315:3");
        Check.due("1001", Check.collect(x, "cccccccbbbbbaaaaaaa"), -2);
        x = Check.of("11223", "215:1", "315:1");
        Check.due("1001", Check.collect(x, "ccccccccbbbbbbbaaaaaa"), -2);
        x = Check.of("112333", "213:3", "214:3", "314:3", "315:3", "316:3", "324:3");
        Check.due("far more", Check.collect(x, "bbbbbbbbbbbbaaaaaaaaaaaa"), -2);
    }

    /** Promise 17: "(collected() is as it was then)". */
    static void collectedAsItWas() {
        HallRegisters x = Check.of("11223", "315:3");
        Check.collectDue(x, "ca", 1, "1 0 1 0 3 -");
        Check.due("too long", Check.collect(x, "cccccccbbbbbaaaaaaa"), -2);
        Check.due("as it was", Check.collectedRow(x), "1 0 1 0 3 -");
        Check.due("not so", Check.collect(x, "bg"), -1);
        Check.due("as it was", Check.collectedRow(x), "1 0 1 0 3 -");
    }

    /** Promise 18: "NONE if there is no such letter (1 .. n as it was then)". */
    static void noSuchLetter() {
        HallRegisters x = new HallRegisters();
        Check.collectDue(x, "ba", 1, "1 1 1 - - -");
        for (int i : new int[] {0, 4, -1, Integer.MIN_VALUE, Integer.MAX_VALUE}) {
            Check.due("collected(" + i + ")", x.collected(i), -1);
        }
        Check.due("kind", x.kind(2), true);
        Check.due("as it was then", Check.collectedRow(x), "1 1 1 - - -");
        Check.collectDue(x, "f", 0, "0 0 0 0 0 1");
        Check.due("group", x.group(1, 1), true);
        Check.due("as it was then", Check.collectedRow(x), "0 0 0 0 0 1");
        Check.due("collected(7)", x.collected(7), -1);
    }

    /** Promise 18: "or ahead of any". */
    static void aheadOfAnyCollecting() {
        HallRegisters x = new HallRegisters();
        Check.due("ahead of any", Check.collectedRow(x), "- - - - - -");
        Check.due("not so", Check.collect(x, "g"), -1);
        Check.due("still ahead of any", Check.collectedRow(x), "- - - - - -");
        Check.collectDue(x, "", 0, "0 0 0 - - -");
        x = Check.of("11223", "315:3");
        Check.due("too long", Check.collect(x, "cccccccbbbbbaaaaaaa"), -2);
        Check.due("still ahead of any", Check.collectedRow(x), "- - - - - -");
    }
}
