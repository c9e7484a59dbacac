/** Promises 20 to 22: put, wipe and fault, and what a stamp as a text is. */
public final class PadTest {
    public static void main(String[] args) {
        putAppends();
        putErrors();
        putUpToSixtyFour();
        wipe();
        noFault();
        faults();
        numbers();
        theDeepestTree();
        notWhatUndoBrings();
        Check.end();
    }

    private static void putAppends() {
        ForkedStamps x = new ForkedStamps();
        Check.due("put((1,)", x.put(Check.code("(1,")), 3);
        Check.due("put(2)", x.put(Check.code("2")), 4);
        Check.due("put())", x.put(Check.code(")")), 5);
        Check.due("fault()", x.fault(), ForkedStamps.NONE);
        Check.due("count(6)", x.count(6), 5);
        Check.due("put of the last code, 126", x.put(126), 6);
        Check.due("put of the first code, 33", x.put(33), 7);
        Check.due("put of eight characters", x.put(0x7E7E7E7E7E7E7E7EL), 15);
        Check.due("put of eight characters", x.put(0x2121212121212121L), 23);
        Check.due("fault()", x.fault(), 5);
        Check.rewrite(x, "((1,2),3)");
        Check.due("the order of the characters", x.fault(), ForkedStamps.NONE);
    }

    private static void putErrors() {
        ForkedStamps x = new ForkedStamps();
        x.put(49);
        long[] bad = {0, 32, 127, 255, 256, 0x3100, 0x310031, 0x3100000000000031L, 0x0100000000000031L, 0x31313131313131FFL,
            0x20, 0x3120, 0x2031, 0x7F31, 0x317F, 0x8031, 0x7F31313131313131L, 0x2031313131313131L, 0x8031313131313131L,
            -1, Long.MIN_VALUE, Long.MAX_VALUE, 0xB131313131313131L, 0x3100313131313131L, 1, 10, 13, 0x3131313131313100L};
        for (long characters : bad) {
            Check.due("put(" + characters + ")", x.put(characters), ForkedStamps.BAD_VALUE);
            Check.due("count(6)", x.count(6), 1);
        }
        Check.due("still one number", x.fault(), ForkedStamps.NONE);
    }

    private static void putUpToSixtyFour() {
        ForkedStamps x = new ForkedStamps();
        for (int length = 8; length <= 64; length += 8) {
            Check.due("put up to " + length, x.put(Check.code("((((((((")), length);
        }
        Check.due("65 characters", x.put(49), ForkedStamps.TOO_MANY);
        Check.due("72 characters", x.put(Check.code("((((((((")), ForkedStamps.TOO_MANY);
        Check.due("BAD_VALUE comes before TOO_MANY", x.put(0), ForkedStamps.BAD_VALUE);
        Check.due("BAD_VALUE comes before TOO_MANY", x.put(0x310031), ForkedStamps.BAD_VALUE);
        Check.due("count(6)", x.count(6), 64);
        Check.due("fault()", x.fault(), 4);
        x.wipe();
        Check.write(x, "(".repeat(60));
        Check.due("65 characters by five", x.put(Check.code("12345")), ForkedStamps.TOO_MANY);
        Check.due("nothing was put", x.count(6), 60);
        Check.due("64 characters by four", x.put(Check.code("1234")), 64);
    }

    private static void wipe() {
        ForkedStamps x = new ForkedStamps();
        Check.due("wipe() of an empty pad", x.wipe(), 0);
        Check.write(x, "(1,2)");
        Check.due("wipe()", x.wipe(), 5);
        Check.due("wipe() again", x.wipe(), 0);
        Check.due("count(6)", x.count(6), 0);
        Check.due("fault()", x.fault(), 0);
        Check.write(x, "7");
        Check.due("nothing is left", x.fault(), ForkedStamps.NONE);
        Check.due("wipe()", x.wipe(), 1);
    }

    private static void noFault() {
        String[] texts = {"0", "9", "10", "99", "100", "199", "200", "249", "250", "(0,0)", "(1,1)", "(250,250)", "((1,2),3)",
            "(1,(2,3))", "((1,2),(3,4))", "((((1,2),3),4),5)", "(1,(2,(3,(4,5))))", "((((0,0),0),0),0)"};
        for (String text : texts) {
            ForkedStamps x = new ForkedStamps();
            Check.rewrite(x, text);
            Check.due("the fault of " + text, x.fault(), ForkedStamps.NONE);
            for (int length = 0; length < text.length(); length++) {
                Check.rewrite(x, text.substring(0, length));
                boolean isNumber = length > 0 && text.charAt(0) != '(';
                Check.due("the fault of " + length + " of " + text, x.fault(), isNumber ? ForkedStamps.NONE : length);
            }
        }
    }

    private static void faults() {
        faultAt("", 0);
        faultAt("(", 1);
        faultAt("(1", 2);
        faultAt("(1,", 3);
        faultAt("(1,2", 4);
        faultAt("((1,2)", 6);
        faultAt("()", 1);
        faultAt("(,", 1);
        faultAt(",", 0);
        faultAt(")", 0);
        faultAt("1,", 1);
        faultAt("1)", 1);
        faultAt("1(", 1);
        faultAt("(1)", 2);
        faultAt("(1(", 2);
        faultAt("(1,,", 3);
        faultAt("(1,)", 3);
        faultAt("(1,2,", 4);
        faultAt("(1,2(", 4);
        faultAt("(1,2)1", 5);
        faultAt("(1,2),", 5);
        faultAt("(1,2))", 5);
        faultAt("(1,2)(", 5);
        faultAt("((1,2)3", 6);
        faultAt("((1,2)(", 6);
        faultAt("((1,2))", 6);
        faultAt("(1,(2,3),", 8);
        faultAt("(1,(2,3)4", 8);
        faultAt("-1", 0);
        faultAt("+1", 0);
        faultAt("1.5", 1);
        faultAt("a", 0);
        faultAt("(1;2)", 2);
        faultAt("[1,2]", 0);
        faultAt("1/", 1);
        faultAt("1:", 1);
        faultAt("(/", 1);
        faultAt("(:", 1);
        // A tree of one cell is a number.
        faultAt("(((((", 4);
        faultAt("((((1,(", 6);
        faultAt("((((1,2),((", 10);
        faultAt("(1,(2,(3,(4,(", 12);
        faultAt("((((1,2,", 7);
    }

    private static void faultAt(String text, int place) {
        ForkedStamps x = new ForkedStamps();
        Check.write(x, text);
        Check.due("the fault of " + text, x.fault(), place);
        Check.due("the order to " + text, x.orderToPad(0), ForkedStamps.BAD_TEXT);
    }

    private static void numbers() {
        ForkedStamps x = new ForkedStamps();
        for (int number = 0; number <= 3000; number++) {
            x = new ForkedStamps();
            String text = Integer.toString(number);
            int fault = number <= 250 ? ForkedStamps.NONE : Integer.parseInt(text.substring(0, 3)) > 250 ? 2 : 3;
            Check.rewrite(x, text);
            Check.due("the fault of " + text, x.fault(), fault);
        }
        Check.rewrite(x, "(0,3)");
        Check.due("a zero and another number", x.fault(), ForkedStamps.NONE);
        faultAt("00", 1);
        faultAt("01", 1);
        faultAt("(00,1)", 2);
        faultAt("(0,07)", 4);
        faultAt("251", 2);
        faultAt("260", 2);
        faultAt("1000", 3);
        faultAt("(251,1)", 3);
        faultAt("(1,256)", 5);
        faultAt("25000000", 3);
    }

    private static void theDeepestTree() {
        ForkedStamps x = new ForkedStamps();
        String text = "((((0,1),(2,3)),((4,5),(6,7))),(((8,9),(0,1)),((2,3),(4,5))))";
        Check.rewrite(x, text);
        Check.due("61 characters", x.count(6), 61);
        Check.due("all sixteen cells", x.fault(), ForkedStamps.NONE);
        Check.due("order", x.orderToPad(0), ForkedStamps.BEFORE);
        // Each digit stands for its own cell: a stamp is behind it just where its cell is 0.
        for (int cell = 0; cell < 16; cell++) {
            StringBuilder one = new StringBuilder();
            int seen = 0;
            for (char character : text.toCharArray()) {
                boolean digit = character >= '0' && character <= '9';
                one.append(digit ? (seen++ == cell ? '1' : '0') : character);
            }
            ForkedStamps single = withHeightInCell(cell);
            Check.write(single, one.toString());
            Check.due("the cell " + cell, single.orderToPad(helperOf(single, cell)), ForkedStamps.SAME);
            single.wipe();
            Check.write(single, one.toString().replace('1', '2'));
            Check.due("the cell " + cell, single.orderToPad(helperOf(single, cell)), ForkedStamps.BEFORE);
            single.wipe();
            Check.write(single, one.toString().replace('1', '0'));
            Check.due("the cell " + cell, single.orderToPad(helperOf(single, cell)), ForkedStamps.BEHIND);
        }
    }

    private static int helperOf(ForkedStamps x, int cell) {
        for (int helper = 0; helper < 8; helper++) {
            if (x.of(helper, 0) > 0 && (x.of(helper, 0) >> cell & 1) == 1) {
                return helper;
            }
        }
        return -1;
    }

    /** An object with a helper who has that cell alone, and has had one event. */
    private static ForkedStamps withHeightInCell(int cell) {
        ForkedStamps x = new ForkedStamps();
        while (x.of(helperOf(x, cell), 1) > 1) {
            x.fork(helperOf(x, cell));
        }
        x.event(helperOf(x, cell));
        return x;
    }

    private static void notWhatUndoBrings() {
        ForkedStamps x = new ForkedStamps();
        x.event(0);
        Check.write(x, "(1,2)");
        Check.due("put and wipe are no changes", x.count(7), 1);
        x.save(0);
        x.undo();
        Check.due("undo keeps the pad", x.count(6), 5);
        x.wipe();
        Check.write(x, "7");
        x.restore(0);
        Check.due("restore keeps the pad", x.count(6), 1);
        Check.due("fault()", x.fault(), ForkedStamps.NONE);
        x.wipe();
        x.undo();
        Check.due("a wiped pad stays empty", x.count(6), 0);
    }
}
