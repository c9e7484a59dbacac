/** The bounds that promises 20 to 22 and the terms of trees as texts name, each in a test of its own, with the sentence that names it. */
public final class BoundsOfTextsTest {
    private static final String DIGITS = "0123456789";

    public static void main(String[] args) {
        putOfEachCode();
        putOfEachCodeAtEachPlace();
        putOfOneToEight();
        putOfNothing();
        putBehindZeroBits();
        putOfNegativeNumbers();
        putUpToSixtyFour();
        putOfBadOnesToAFullPad();
        wipeOfEmptyAndFull();
        faultOfEmptyPad();
        faultAtEachEnd();
        faultOfUnfinishedFullPad();
        faultAtFirstAndLastCharacter();
        theFirstFaultCounts();
        numbersUpToTheGreatest();
        numbersWithLeadingZeros();
        treeOfOneCell();
        knotsOfSameLeaves();
        whatCanStandBehind();
        Check.end();
    }

    private static ForkedStamps padOf(String text) {
        ForkedStamps x = new ForkedStamps();
        Scenes.write(x, text);
        Check.due("the length of " + text, x.count(6), text.length());
        return x;
    }

    // "BAD_VALUE if .. a code is not 33 to 126"
    private static void putOfEachCode() {
        for (int code = 0; code < 256; code++) {
            ForkedStamps x = new ForkedStamps();
            boolean isCharacter = code >= 33 && code <= 126;
            Check.due("put(" + code + ")", x.put(code), isCharacter ? 1 : ForkedStamps.BAD_VALUE);
            Check.due("the length behind put(" + code + ")", x.count(6), isCharacter ? 1 : 0);
        }
    }

    // "a code is not 33 to 126", whichever of the eight characters it is
    private static void putOfEachCodeAtEachPlace() {
        for (int place = 0; place < 8; place++) {
            ForkedStamps x = new ForkedStamps();
            for (long code : new long[] {1, 31, 32, 127, 128, 159, 160, 254, 255}) {
                long characters = 0x3131313131313131L & ~(255L << 8 * place) | code << 8 * place;
                Check.due(code + " at the place " + place, x.put(characters), ForkedStamps.BAD_VALUE);
            }
            Check.due("33 at the place " + place, x.put(0x3131313131313131L & ~(255L << 8 * place) | 33L << 8 * place), 8);
            Check.due("126 at the place " + place, x.put(0x3131313131313131L & ~(255L << 8 * place) | 126L << 8 * place), 16);
            Check.due("where they stand", x.fault(), Math.min(3, 7 - place));
        }
    }

    // "characters: 1 to 8 characters", "its lowest 8 bits are the last character, the next 8 bits the one before, and so on"
    private static void putOfOneToEight() {
        String text = "((1,2),3)";
        for (int amount = 1; amount <= 8; amount++) {
            ForkedStamps x = new ForkedStamps();
            for (int from = 0; from < text.length(); from += amount) {
                int to = Math.min(text.length(), from + amount);
                Check.due("put of " + amount, x.put(Check.code(text.substring(from, to))), to);
            }
            Check.due("the order of the characters", x.fault(), ForkedStamps.NONE);
            Check.due("count(6)", x.count(6), 9);
        }
    }

    // "BAD_VALUE if there is no character"
    private static void putOfNothing() {
        ForkedStamps x = new ForkedStamps();
        Check.due("put(0)", x.put(0), ForkedStamps.BAD_VALUE);
        Check.due("the length", x.count(6), 0);
        for (int place = 1; place < 8; place++) {
            Check.due("no last character, one at the place " + place, x.put(49L << 8 * place), ForkedStamps.BAD_VALUE);
        }
        Check.due("the length", x.count(6), 0);
    }

    // "or a bit above 8 bits that are 0 is not 0"
    private static void putBehindZeroBits() {
        for (int amount = 1; amount < 7; amount++) {
            ForkedStamps x = new ForkedStamps();
            long characters = 0x3131313131313131L >>> 8 * (8 - amount);
            for (int bit = 8 * (amount + 1); bit < 64; bit++) {
                Check.due("the bit " + bit + " above " + amount, x.put(characters | 1L << bit), ForkedStamps.BAD_VALUE);
            }
            Check.due("one more above " + amount, x.put(characters | 49L << 8 * (amount + 1)), ForkedStamps.BAD_VALUE);
            Check.due("none above " + amount, x.put(characters), amount);
        }
    }

    // The eighth character has the sign of the number.
    private static void putOfNegativeNumbers() {
        ForkedStamps x = new ForkedStamps();
        long[] negative = {-1, Long.MIN_VALUE, Long.MIN_VALUE | 49, -49, 0x8031313131313131L, 0xB131313131313131L, 0xFE31313131313131L};
        for (long characters : negative) {
            Check.due("put(" + characters + ")", x.put(characters), ForkedStamps.BAD_VALUE);
        }
        Check.due("put of the greatest eighth code", x.put(0x7E31313131313131L), 8);
        Check.due("put(Long.MAX_VALUE)", x.put(Long.MAX_VALUE), ForkedStamps.BAD_VALUE);
    }

    // "TOO_MANY if the pad would be longer than 64"
    private static void putUpToSixtyFour() {
        for (int length = 56; length <= 64; length++) {
            for (int amount = 1; amount <= 8; amount++) {
                ForkedStamps x = padOf("(".repeat(length));
                int due = length + amount <= 64 ? length + amount : ForkedStamps.TOO_MANY;
                Check.due("put of " + amount + " to " + length, x.put(Check.code("1".repeat(amount))), due);
                Check.due("the length then", x.count(6), Math.max(length, due));
            }
        }
    }

    // "BAD_VALUE .. ; TOO_MANY": in this order
    private static void putOfBadOnesToAFullPad() {
        ForkedStamps x = padOf("(".repeat(64));
        for (long bad : new long[] {0, 32, 127, 128, 0x3100, 0x310031, -1, Long.MIN_VALUE}) {
            Check.due("put(" + bad + ") to 64", x.put(bad), ForkedStamps.BAD_VALUE);
        }
        Check.due("put(33) to 64", x.put(33), ForkedStamps.TOO_MANY);
        Check.due("wipe()", x.wipe(), 64);
        Check.due("put(33) to none", x.put(33), 1);
    }

    // "Empties the pad, and returns the length that it had"
    private static void wipeOfEmptyAndFull() {
        ForkedStamps x = new ForkedStamps();
        Check.due("nothing was put", x.wipe(), 0);
        for (int length = 1; length <= 64; length += 9) {
            Scenes.write(x, "1".repeat(length));
            Check.due("wipe() of " + length, x.wipe(), length);
            Check.due("wipe() again", x.wipe(), 0);
            Check.due("count(6)", x.count(6), 0);
            Check.due("fault()", x.fault(), 0);
        }
        Scenes.write(x, "7");
        Check.due("nothing is left of it", x.fault(), ForkedStamps.NONE);
    }

    // "if there is none and the text ends too early (also if it is empty), it is the length of the text"
    private static void faultOfEmptyPad() {
        ForkedStamps x = new ForkedStamps();
        Check.due("nothing was put", x.fault(), 0);
        x.put(49);
        Check.due("a stamp", x.fault(), ForkedStamps.NONE);
        x.wipe();
        Check.due("empty again", x.fault(), 0);
    }

    // "and the text ends too early .. it is the length of the text": at each place where it can end
    private static void faultAtEachEnd() {
        String text = "((((1,20),(0,4)),((5,6),(7,8))),(((9,100),(0,2)),((3,40),250)))";
        ForkedStamps x = new ForkedStamps();
        for (int length = 1; length <= text.length(); length++) {
            x.put(text.charAt(length - 1));
            Check.due("the fault of " + text.substring(0, length), x.fault(), length < text.length() ? length : ForkedStamps.NONE);
        }
    }

    // The same where no more character has room.
    private static void faultOfUnfinishedFullPad() {
        String text = "((((10,20),(30,40)),((5,6),(7,8))),(((9,10),(11,12)),((13,14),1)";
        ForkedStamps x = padOf(text);
        Check.due("it is full", x.count(6), 64);
        Check.due("its fault", x.fault(), 64);
        Check.due("its order", x.orderToPad(0), ForkedStamps.BAD_TEXT);
    }

    // "the index of the first character that cannot stand at its place"
    private static void faultAtFirstAndLastCharacter() {
        Check.due("the first one of one", padOf(",").fault(), 0);
        Check.due("the first one of 64", padOf(",".repeat(64)).fault(), 0);
        Check.due("the last one of two", padOf("1)").fault(), 1);
        String text = "((((1,2),(3,4)),((5,6),(7,8))),(((9,10),(11,12)),((13,14),15)))";
        Check.due("none of 63", padOf(text).fault(), ForkedStamps.NONE);
        Check.due("the last one of 64", padOf(text + ")").fault(), 63);
    }

    // "the first character that cannot stand at its place when the text is read from left to right"
    private static void theFirstFaultCounts() {
        Check.due("two faults", padOf("(1;2;").fault(), 2);
        Check.due("a fault and a stamp behind it", padOf(";(1,2)").fault(), 0);
        Check.due("a fault and an early end", padOf("((1,,").fault(), 4);
        Check.due("two stamps", padOf("(1,2)(1,2)").fault(), 5);
        Check.due("a leaf and more", padOf("1,2").fault(), 1);
        Check.due("a knot of one tree", padOf("(1)").fault(), 2);
        Check.due("a knot of three trees", padOf("(1,2,3)").fault(), 4);
    }

    // "numbers are 0 to 250", "(also of a digit by which a number would be above 250)"
    private static void numbersUpToTheGreatest() {
        for (int number = 0; number <= 2600; number++) {
            String text = String.valueOf(number);
            int fault = number <= 250 ? ForkedStamps.NONE : text.length() == 3 ? 2 : Integer.parseInt(text.substring(0, 3)) > 250 ? 2 : 3;
            Check.due("the fault of " + text, padOf(text).fault(), fault);
            int inKnot = number <= 250 ? ForkedStamps.NONE : fault + 3;
            Check.due("the fault of " + text + " in a knot", padOf("(0," + text + ")").fault(), inKnot);
        }
        Check.due("a number beyond an int", padOf("4294967297").fault(), 2);
        Check.due("a number beyond a long", padOf("1".repeat(64)).fault(), 3);
        Check.due("25 and 0s", padOf("25" + "0".repeat(62)).fault(), 3);
        ForkedStamps x = padOf("250");
        Check.due("all cells have 250", x.orderToPad(0), ForkedStamps.BEFORE);
    }

    // "without leading zeros"
    private static void numbersWithLeadingZeros() {
        for (char digit : DIGITS.toCharArray()) {
            Check.due("0" + digit, padOf("0" + digit).fault(), 1);
            Check.due("(0" + digit, padOf("(0" + digit).fault(), 2);
            Check.due("(1,0" + digit, padOf("(1,0" + digit).fault(), 4);
            Check.due("((((0" + digit, padOf("((((0" + digit).fault(), 5);
            boolean leads = digit != '0';
            Check.due(digit + "0", padOf(digit + "0").fault(), leads ? ForkedStamps.NONE : 1);
            Check.due(digit + "00", padOf(digit + "00").fault(), leads ? (digit > '2' ? 2 : ForkedStamps.NONE) : 1);
        }
        Check.due("0", padOf("0").fault(), ForkedStamps.NONE);
        Check.due("(0,0)", padOf("(0,0)").fault(), ForkedStamps.NONE);
    }

    // "where a tree of one cell is a number"
    private static void treeOfOneCell() {
        Check.due("four are open", padOf("((((").fault(), 4);
        Check.due("a fifth one", padOf("(((((").fault(), 4);
        Check.due("a fifth one, in the second cell", padOf("((((1,(").fault(), 6);
        Check.due("a fifth one, in the third cell", padOf("((((1,2),((").fault(), 10);
        Check.due("a fifth one, in the last cell", padOf("(1,(2,(3,(4,(").fault(), 12);
        Check.due("a fourth one, in the last two cells", padOf("(1,(2,(3,(4,5))))").fault(), ForkedStamps.NONE);
        Check.due("a comma instead of a tree", padOf("((((,").fault(), 4);
    }

    // "(A knot whose halves are leaves with the same number can stand there, too.)"
    private static void knotsOfSameLeaves() {
        for (String text : new String[] {"0", "(0,0)", "((0,0),0)", "(0,(0,0))", "((0,0),(0,0))", "((((0,0),0),0),0)", "(0,(0,(0,(0,0))))",
            "((((0,0),(0,0)),((0,0),(0,0))),(((0,0),(0,0)),((0,0),(0,0))))"}) {
            ForkedStamps x = padOf(text);
            Check.due("the fault of " + text, x.fault(), ForkedStamps.NONE);
            Check.due("the order to " + text, x.orderToPad(0), ForkedStamps.SAME);
            x.event(0);
            Check.due("the order to " + text, x.orderToPad(0), ForkedStamps.BEHIND);
        }
    }

    // "As a stamp it is such a text": which of all characters can stand behind a text, and which of them end it
    private static void whatCanStandBehind() {
        behind("", "(", DIGITS);
        behind("(", "(" + DIGITS, "");
        behind("(((", "(" + DIGITS, "");
        behind("((((", DIGITS, "");
        behind("0", "", "");
        behind("1", "", DIGITS);
        behind("24", "", DIGITS);
        behind("25", "", "0");
        behind("26", "", "");
        behind("99", "", "");
        behind("100", "", "");
        behind("250", "", "");
        behind("(0", ",", "");
        behind("(1", "," + DIGITS, "");
        behind("(25", ",0", "");
        behind("(250", ",", "");
        behind("(1,", "(" + DIGITS, "");
        behind("(1,0", "", ")");
        behind("(1,1", DIGITS, ")");
        behind("(1,25", "0", ")");
        behind("(1,250", "", ")");
        behind("(1,2)", "", "");
        behind("((1,2)", ",", "");
        behind("((1,2),", "(" + DIGITS, "");
        behind("((1,2),3", DIGITS, ")");
        behind("((1,2),(3,4)", "", ")");
        behind("((1,2),(3,4))", "", "");
        behind("(1,(2,3)", "", ")");
        behind("((((0", ",", "");
        behind("((((1", "," + DIGITS, "");
        behind("((((1,", DIGITS, "");
        behind("((((1,2", ")" + DIGITS, "");
        behind("((((1,2)", ",", "");
        behind("((((1,2),", "(" + DIGITS, "");
        behind("((((1,2),(", DIGITS, "");
        behind("((((1,2),(3,4)", ")", "");
        behind("((((1,2),(3,4))", ",", "");
    }

    private static void behind(String text, String goingOn, String ending) {
        for (char character = 33; character <= 126; character++) {
            ForkedStamps x = padOf(text + character);
            int due = text.length();
            if (goingOn.indexOf(character) >= 0) {
                due = text.length() + 1;
            } else if (ending.indexOf(character) >= 0) {
                due = ForkedStamps.NONE;
            }
            Check.due("the fault of " + text + character, x.fault(), due);
            Check.same("a stamp: " + text + character, x.orderToPad(0) != ForkedStamps.BAD_TEXT, due == ForkedStamps.NONE);
        }
    }
}
