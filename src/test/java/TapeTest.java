/** Promises 13 to 18: the tape, texts and their faults, collecting. */
public final class TapeTest {
    private TapeTest() {
    }

    public static void main(String[] args) {
        tape();
        texts();
        blanks();
        wrongBytes();
        numbersLettersDepth();
        over();
        overFirst();
        refusedTexts();
        collect();
        collectTooLong();
        Check.finish("TapeTest");
    }

    private static void tape() {
        HallRegisters x = new HallRegisters();
        Check.due("end(0)", x.end(0), true);
        Check.due("end(1)", x.end(1), false);
        Check.due("end(-1)", x.end(-1), false);
        for (int bytes = 20; bytes <= 200; bytes += 20) {
            Check.due("feed", x.feed(-1, Integer.MIN_VALUE, Integer.MAX_VALUE, 0, 1), bytes);
            Check.due("look(7)", x.look(7), bytes);
        }
        Check.due("feed, full", x.feed(0, 0, 0, 0, 0), -1);
        Check.due("look(7)", x.look(7), 200);
        Check.due("end(201)", x.end(201), false);
        Check.due("end(200)", x.end(200), true);
        Check.due("end(181)", x.end(181), true);
        Check.due("feed, 201 would be too many", x.feed(0, 0, 0, 0, 0), -1);
        Check.due("look(7)", x.look(7), 181);
        Check.due("end(180)", x.end(180), true);
        Check.due("feed, 200", x.feed(0, 0, 0, 0, 0), 200);
        Check.due("end(min)", x.end(Integer.MIN_VALUE), false);
        Check.due("end(7)", x.end(7), true);
        Check.due("look(7)", x.look(7), 7);
        x.end(0);
        // the bytes' order: "abcc" "cbba" ..., the highest first
        Check.due("feed", x.feed(0x61626363, 0x63626261, 0x20202020, 0x20202020, 0x20202020), 20);
        Check.due("text", x.text(0), true);
        Check.rowDue(x, "text abcccbba", 0, "2 3 6");
    }

    private static void textDue(HallRegisters x, String text, String row) {
        Check.due("text " + text, Check.read(x, 1, text), 0);
        Check.rowDue(x, "text " + text, 1, row);
        Check.due("look(7)", x.look(7), 0);
    }

    private static void faultDue(HallRegisters x, String text, int fault, int place) {
        Check.due("text " + text, Check.read(x, 1, text), fault * 1000 + place);
        Check.due("fault(0)", x.fault(0), fault);
        Check.due("fault(1)", x.fault(1), place);
        Check.due("look(7)", x.look(7), 0);
    }

    private static void texts() {
        HallRegisters x = new HallRegisters();
        Check.setRow(x, 7, 3, 0, 5);
        textDue(x, "", "0 0 0");
        textDue(x, "a", "1 0 0");
        textDue(x, "ba", "1 1 1");
        textDue(x, "ab", "1 1 0");
        textDue(x, "a^3", "3 0 0");
        textDue(x, "ab^3a", "2 3 3");
        textDue(x, "a^-1b^0", "-1 0 0");
        textDue(x, "a^-0", "0 0 0");
        textDue(x, "a^0000000000000000000000099", "99 0 0");
        textDue(x, "(ab)^2", "2 2 1");
        textDue(x, "((a)(b))^-1", "-1 -1 1");
        textDue(x, "[a,b]", "0 0 -1");
        textDue(x, "[b,a]^5", "0 0 5");
        textDue(x, "[b,a,a,b]", "0 0 0");
        textDue(x, "[bb,aaa]", "0 0 6");
        textDue(x, "[,]", "0 0 0");
        textDue(x, "[a,]", "0 0 0");
        textDue(x, "()", "0 0 0");
        textDue(x, "()^9", "0 0 0");
        textDue(x, "R7", "3 0 5");
        textDue(x, "R7^2bR0", "6 1 10");
        textDue(x, "[(b)^2,R7]", "0 0 6");
        textDue(x, "R1R1", "0 0 12");
        x.kind(1);
        textDue(x, "[b,a,a]", "0 0 0 1 0");
        textDue(x, "[b,a,b]", "0 0 0 0 1");
        textDue(x, "[[b,a],b]", "0 0 0 0 1");
        textDue(x, "[b,[b,a]]", "0 0 0 0 -1");
    }

    private static void blanks() {
        HallRegisters x = new HallRegisters();
        Check.setRow(x, 7, 3, 0, 5);
        textDue(x, "   ", "0 0 0");
        textDue(x, " a ^ - 2 b ", "-2 1 0");
        textDue(x, " ( a  b ) ^ 2  ", "2 2 1");
        textDue(x, " [ b , a ] ", "0 0 1");
        textDue(x, " R7 ^ 2", "6 0 10");
        faultDue(x, "R 7", 1, 1);
        faultDue(x, "a^1 2", 1, 4);
        faultDue(x, "a^- -2", 1, 4);
        faultDue(x, "a \t", 1, 2);
    }

    private static void wrongBytes() {
        HallRegisters x = new HallRegisters();
        Object[][] faults = {{"g", 0}, {"A", 0}, {"~", 0}, {"a~", 1}, {"1", 0}, {"-a", 0}, {"^2", 0}, {",", 0}, {")", 0},
            {"]", 0}, {"R", 1}, {"Ra", 1}, {"R:", 1}, {"a^", 2}, {"a^  ", 4}, {"a^b", 2}, {"a^-", 3}, {"a^--1", 3}, {"a^+1", 2},
            {"a^2^3", 3}, {"(a", 2}, {"(a  ", 4}, {"(a]", 2}, {"(a,b)", 2}, {"[a]", 2}, {"[a", 2}, {"[a)", 2}, {"[a,b", 4},
            {"[a,b)", 4}, {"[a,b,", 5}, {"[a,b]]", 5}, {"(a))", 3}, {"a,b", 1}, {"(", 1}, {"[", 1}, {"a b g f", 4}, {"`", 0},
            {"[a,(b]", 5}, {"([a,b)", 5}};
        for (Object[] fault : faults) {
            faultDue(x, (String) fault[0], 1, (Integer) fault[1]);
        }
        Check.due("fault(2)", x.fault(2), -1);
        Check.due("fault(-1)", x.fault(-1), -1);
        Check.due("faults are no acts", x.look(6), 0);
        Check.due("only FAULT 5 is counted", x.look(8), 0);
    }

    private static void numbersLettersDepth() {
        HallRegisters x = new HallRegisters();
        faultDue(x, "a^100", 2, 2);
        faultDue(x, "a^ - 0100", 2, 5);
        faultDue(x, "a^99999999999999999999999999", 2, 2);
        faultDue(x, "a^4294967296g", 2, 2);
        faultDue(x, "d", 3, 0);
        faultDue(x, "ab f^x", 3, 3);
        faultDue(x, "a^d", 1, 2);
        faultDue(x, "(((((((((", 4, 8);
        faultDue(x, "([([([([ (", 4, 9);
        faultDue(x, "(((((((([", 4, 8);
        faultDue(x, "((((((((a))))))))(((((((( [", 4, 26);
        faultDue(x, "((((((((a))))))))b^(", 1, 19);
        textDue(x, "((((((((a))))))))((((((((b))))))))", "1 1 0");
        textDue(x, "[[[[[[[[b,a],a],a],a],a],a],a],a]", "0 0 0");
        x.group(1, 1);
        faultDue(x, "b", 3, 0);
        x.group(6, 1365);
        textDue(x, "f", "0 0 0 0 0 1");
    }

    private static void over() {
        HallRegisters x = new HallRegisters();
        Check.setRow(x, 0, 999, 0, 0);
        Check.setRow(x, 2, 0, 999, 0);
        faultDue(x, "R0^2", 5, 4);
        Check.due("look(8)", x.look(8), 1);
        faultDue(x, "R0a", 5, 3);
        faultDue(x, "R0 a b", 5, 4);
        faultDue(x, "b^2R0", 5, 5);
        faultDue(x, "(a R0 )", 5, 5);
        faultDue(x, "[R0,b^2]", 5, 7);
        faultDue(x, "[ R0 , b^2 ]", 5, 10);
        faultDue(x, "[R0,(b^2) ,a]", 5, 9);
        faultDue(x, "[a,a,b]R0 ^ 2 a", 5, 13);
        textDue(x, "R0R2^0R2", "999 999 0");
        faultDue(x, "R2 R0 ^-1 ", 5, 9);
        Check.due("look(8)", x.look(8), 10);
        Check.setRow(x, 1, 0, 0, 0);
        Check.due("a text with a fault", Check.read(x, 1, "aR0"), 5003);
        Check.rowDue(x, "a fault changes nothing", 1, "0 0 0");
    }

    /** At one place OVER is ahead, of two places the first. */
    private static void overFirst() {
        HallRegisters x = new HallRegisters();
        Check.setRow(x, 0, 999, 0, 0);
        faultDue(x, "R0ag", 5, 3);
        faultDue(x, "R0a)", 5, 3);
        faultDue(x, "R0^9f", 5, 4);
        faultDue(x, "R0^9", 5, 4);
        faultDue(x, "R0a g", 5, 3);
        faultDue(x, "gR0a", 1, 0);
        faultDue(x, "R0a^100", 2, 4);
        faultDue(x, "R0a^x", 1, 4);
        faultDue(x, "R0^100", 2, 3);
        faultDue(x, "[R0,b^2", 5, 7);
        faultDue(x, "[R0,b^2)", 5, 7);
        faultDue(x, "[R0,b^2d", 3, 7);
        faultDue(x, "((((((((R0a(", 5, 11);
        faultDue(x, "((((((((R0(a", 4, 10);
    }

    private static void refusedTexts() {
        HallRegisters x = new HallRegisters();
        Check.setRow(x, 0, 999, 0, 0);
        faultDue(x, "g", 1, 0);
        for (int r : new int[] {-1, 10, Integer.MIN_VALUE, Integer.MAX_VALUE}) {
            Check.feed(x, "R0R0");
            Check.due("text(" + r + ")", x.text(r), false);
            Check.due("fault(0)", x.fault(0), 0);
            Check.due("fault(1)", x.fault(1), -1);
            Check.due("look(7)", x.look(7), 0);
        }
        Check.due("look(8)", x.look(8), 0);
        faultDue(x, "g", 1, 0);
        x.kind(2);
        x.tail(4, 2, 6, 0);
        Check.feed(x, "g");
        Check.due("not consistent text(0)", x.text(0), false);
        Check.due("fault(0)", x.fault(0), 0);
        Check.due("fault(1)", x.fault(1), -1);
        Check.due("look(7)", x.look(7), 0);
    }

    private static void collectDue(HallRegisters x, String word, int exchanges, String row) {
        Check.due("collect " + word, Check.collect(x, word), exchanges);
        Check.due("look(7)", x.look(7), 0);
        int at = 1;
        for (String count : row.split(" ")) {
            Check.due("collected(" + at + ") of " + word, x.collected(at), Integer.parseInt(count));
            at++;
        }
        Check.due("collected(" + at + ")", x.collected(at), -1);
    }

    private static void collect() {
        HallRegisters x = new HallRegisters();
        collectDue(x, "", 0, "0 0 0");
        collectDue(x, "abc", 0, "1 1 1");
        collectDue(x, "ba", 1, "1 1 1");
        collectDue(x, "ca", 1, "1 0 1");
        // b a c: b a becomes a b c, then the letter c is right
        collectDue(x, "bac", 1, "1 1 2");
        // b b a: b a b c, a b c b c, a b b c c
        collectDue(x, "bba", 3, "1 2 2");
        collectDue(x, "abcabcabcabcabcabcabcabc", 280, "8 8 36");
        for (String wrong : new String[] {"d", "a b", " ", "R0", "abg", "~", "aaaaaaaaaaaaaaaaaaaaaaaaa", "A", "`"}) {
            Check.due("collect " + wrong, Check.collect(x, wrong), -1);
            Check.due("look(7)", x.look(7), 0);
            Check.due("collected(3)", x.collected(3), 36);
        }
        collectDue(x, "aaaaaaaaaaaaaaaaaaaaaaaa", 0, "24 0 0");
        Check.due("collected(0)", x.collected(0), -1);
        Check.due("collected(min)", x.collected(Integer.MIN_VALUE), -1);
        x.kind(2);
        Check.due("collected(3), as it was then", x.collected(3), 0);
        Check.due("collected(4), as it was then", x.collected(4), -1);
        x.tail(4, 2, 6, 0);
        // c b a: b c e a, b c a e f, b a c d e f, a b c d e f
        collectDue(x, "cba", 4, "1 1 1 1 1 1");
        x.group(1, 1);
        Check.due("collected(6), as it was then", x.collected(6), 1);
        Check.due("collecting is no act", x.look(6), 3);
    }

    private static void collectTooLong() {
        HallRegisters x = new HallRegisters();
        x.group(6, 1 + 4 + 32 + 128 + 512 + 3072);
        for (int k = 3; k <= 6; k++) {
            x.tail(2, 1, k, 3);
            for (int j = 3; j < k && k == 6; j++) {
                x.tail(j, 1, 6, 3);
                x.tail(j, 2, 6, 3);
            }
        }
        collectDue(x, "ba", 1, "1 1 3 3 3 3");
        Check.due("collect too long", Check.collect(x, "bbbbbbbbbbbbaaaaaaaaaaaa"), -2);
        Check.due("look(7)", x.look(7), 0);
        Check.due("collected(6)", x.collected(6), 3);
    }
}
