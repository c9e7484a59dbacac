/** The bounds that promises 8 to 19 and the terms behind them name, each in a test of its own, with the sentence that names it. */
public final class BoundsOfLooksTest {
    private static final int[] NONE_OF_TWO = {Integer.MIN_VALUE, -6, -1, 2, 7, 8, 32, Integer.MAX_VALUE};
    private static final int[] NO_KIND = {Integer.MIN_VALUE, -1, 2, 3, Integer.MAX_VALUE};

    public static void main(String[] args) {
        ofWhatIsOutOfRange();
        ofWithoutSuchHelper();
        ofOneHelperWithAllAndWithOneCell();
        ofNothingAndAll();
        latestEventsOfAll();
        noKnot();
        mostKnots();
        charactersOfLeaves();
        ofMessageWhatIsOutOfRange();
        ofMessageWithoutSuchMessage();
        ofMessageOfNothingAndAll();
        heightOfEachCell();
        heightErrors();
        knowsFirstAndLast();
        knowsErrors();
        countOutOfRange();
        countOfOneAndEight();
        clashingPairs();
        mostKnotsOfAll();
        foremostOfSame();
        foremostOfNone();
        foremostAlone();
        padAndHistoryFull();
        whoseFirstAndLast();
        whoseNumberAsItWas();
        orderByOneCell();
        orderErrors();
        moreOfNothingAndAll();
        orderToPadErrors();
        orderToLongestPad();
        printedFirstAndLast();
        printedBeyondThePad();
        printedErrors();
        ifReceiveNothingNew();
        ifReceiveBehindAllEvents();
        ifReceiveErrors();
        laggardOfNothing();
        laggardOfSeveral();
        laggardOutOfRange();
        Check.end();
    }

    /** The helpers 0 and 1, and the messages 0 and 1 of theirs; an event each. */
    private static ForkedStamps two() {
        ForkedStamps x = new ForkedStamps();
        x.fork(0);
        x.event(0);
        x.event(1);
        x.send(0);
        x.send(1);
        return x;
    }

    // "BAD_VALUE if what is out of range"
    private static void ofWhatIsOutOfRange() {
        ForkedStamps x = new ForkedStamps();
        for (int what : new int[] {Integer.MIN_VALUE, -1, 8, 9, Integer.MAX_VALUE}) {
            Check.due("of(0, " + what + ")", x.of(0, what), ForkedStamps.BAD_VALUE);
        }
        int[] due = {65535, 16, 0, 0, 0, ForkedStamps.NONE, 0, 1};
        for (int what = 0; what < 8; what++) {
            Check.due("of(0, " + what + ")", x.of(0, what), due[what]);
        }
    }

    // "NO_SUCH if there is no such helper", before BAD_VALUE
    private static void ofWithoutSuchHelper() {
        ForkedStamps x = two();
        for (int helper : NONE_OF_TWO) {
            for (int what = -1; what <= 8; what++) {
                Check.due("of(" + helper + ", " + what + ")", x.of(helper, what), ForkedStamps.NO_SUCH);
            }
        }
    }

    // "a share (a set of cells, at least one)"
    private static void ofOneHelperWithAllAndWithOneCell() {
        ForkedStamps x = new ForkedStamps();
        Check.due("all cells", x.of(0, 0), 65535);
        Check.due("how many", x.of(0, 1), 16);
        for (int i = 0; i < 4; i++) {
            x.fork(i);
        }
        Check.due("the last cell alone", x.of(4, 0), 32768);
        Check.due("how many", x.of(4, 1), 1);
        Check.due("the cell before it", x.of(3, 0), 16384);
        for (int i = 0; i < 3; i++) {
            x.fork(0);
        }
        Check.due("the first cell alone, when there are 8", x.of(0, 0), 1);
        Check.due("how many", x.of(0, 1), 1);
    }

    // "2 the greatest height of its stamp, 3 the sum of its heights, 4 how many events it knows"
    private static void ofNothingAndAll() {
        ForkedStamps x = Scenes.events(120);
        Check.due("the greatest height", x.of(0, 2), 120);
        Check.due("the sum", x.of(0, 3), 16 * 120);
        Check.due("how many events", x.of(0, 4), 120);
        Check.due("the latest one", x.of(0, 5), 119);
        for (int cell = 0; cell < 16; cell += 15) {
            ForkedStamps y = new ForkedStamps();
            for (int i = 0; i < 4; i++) {
                y.fork(cell == 0 ? 0 : i);
            }
            int owner = cell == 0 ? 0 : 4;
            y.event(owner);
            y.event(owner);
            Check.due("the greatest height is in the cell " + cell, y.of(owner, 2), 2);
            Check.due("the sum", y.of(owner, 3), 2);
            y.gather(3, 2);
            Check.due("another one's", y.of(2, 2), 0);
        }
    }

    // "5 the latest event that it knows (NONE)"
    private static void latestEventsOfAll() {
        ForkedStamps x = new ForkedStamps();
        x.fork(0);
        for (int event = 0; event < 120; event++) {
            Check.due("the latest of 1, behind " + event, x.of(1, 5), ForkedStamps.NONE);
            x.event(0);
            Check.due("the latest of 0", x.of(0, 5), event);
        }
        x.send(0);
        x.undo();
        x.undo();
        x.send(0);
        Check.due("the last event is one of receiving", x.receive(1, 0), 119);
        Check.due("the latest of 1", x.of(1, 5), 119);
        Check.due("the latest of 0", x.of(0, 5), 118);
    }

    // "the tree of a row of cells in which all heights are the same is a leaf"
    private static void noKnot() {
        ForkedStamps x = Scenes.events(3);
        Check.due("all of 16", x.of(0, 6), 0);
        x.fork(0);
        x.event(1);
        Check.due("both halves are leaves", x.of(1, 6), 1);
        x.fork(1);
        x.event(2);
        Check.due("a knot in the upper half", x.of(2, 6), 2);
        x.fork(2);
        x.event(3);
        Check.due("a knot of four cells", x.of(3, 6), 3);
        x.fork(3);
        x.event(4);
        Check.due("a knot of two cells", x.of(4, 6), 4);
        Check.same("its text", Check.textOf(x, 4), "(3,(4,(5,(6,7))))");
    }

    // "otherwise it is a knot with the trees of its lower half and its upper half"
    private static void mostKnots() {
        ForkedStamps x = new ForkedStamps();
        int helper = Scenes.raggedRow(x, 0);
        Check.due("a knot of each row", x.of(helper, 6), 15);
        Check.same("its text", Check.textOf(x, helper), "((((1,0),(1,0)),((1,0),(1,0))),(((1,0),(1,0)),((1,0),(1,0))))");
        Check.due("its length", x.of(helper, 7), 61);
        x.send(helper);
        Check.due("the message's knots", x.ofMessage(0, 3), 15);
        x.event(helper);
        Check.due("all cells get the greatest height", x.of(helper, 6), 0);
        Check.due("one character", x.of(helper, 7), 1);
    }

    // "As a text a leaf is its number"
    private static void charactersOfLeaves() {
        ForkedStamps x = new ForkedStamps();
        for (int height = 0; height <= 120; height++) {
            Check.due("the length of " + height, x.of(0, 7), height < 10 ? 1 : height < 100 ? 2 : 3);
            x.event(0);
        }
        Check.same("the last one", Check.textOf(x, 0), "120");
    }

    // "BAD_VALUE if what is out of range"
    private static void ofMessageWhatIsOutOfRange() {
        ForkedStamps x = Scenes.messages(1);
        for (int what : new int[] {Integer.MIN_VALUE, -1, 4, 5, 7, Integer.MAX_VALUE}) {
            Check.due("ofMessage(0, " + what + ")", x.ofMessage(0, what), ForkedStamps.BAD_VALUE);
        }
        for (int what = 0; what < 4; what++) {
            Check.due("ofMessage(0, " + what + ")", x.ofMessage(0, what), 0);
        }
    }

    // "NO_SUCH if there is no such message", before BAD_VALUE
    private static void ofMessageWithoutSuchMessage() {
        ForkedStamps x = two();
        for (int message : NONE_OF_TWO) {
            for (int what = -1; what <= 4; what++) {
                Check.due("ofMessage(" + message + ", " + what + ")", x.ofMessage(message, what), ForkedStamps.NO_SUCH);
            }
        }
        ForkedStamps empty = new ForkedStamps();
        Check.due("there is none", empty.ofMessage(0, 0), ForkedStamps.NO_SUCH);
        ForkedStamps full = Scenes.messages(8);
        Check.due("the eighth one", full.ofMessage(7, 0), 0);
        Check.due("behind the eighth one", full.ofMessage(8, 0), ForkedStamps.NO_SUCH);
    }

    // "0 its sender, 1 the sum of its heights, 2 how many events it knows, 3 the knots of its stamp as a tree"
    private static void ofMessageOfNothingAndAll() {
        ForkedStamps x = Scenes.events(120);
        for (int helper : new int[] {0, 0, 1, 0, 1, 2, 3}) {
            x.fork(helper);
        }
        x.send(7);
        Check.due("the sender", x.ofMessage(0, 0), 7);
        Check.due("the sum", x.ofMessage(0, 1), 16 * 120);
        Check.due("the events", x.ofMessage(0, 2), 120);
        Check.due("the knots", x.ofMessage(0, 3), 0);
    }

    // "cell: 0 to 15"
    private static void heightOfEachCell() {
        ForkedStamps x = Scenes.eightHelpers();
        for (int event = 0; event < 36; event++) {
            x.event(event < 1 ? 0 : event < 3 ? 1 : event < 6 ? 2 : event < 10 ? 3 : event < 15 ? 4 : event < 21 ? 5 : event < 28 ? 6 : 7);
        }
        for (int helper = 0; helper < 8; helper++) {
            x.send(helper);
        }
        for (int number = 0; number < 8; number++) {
            int share = x.of(number, 0);
            for (int cell = 0; cell < 16; cell++) {
                int due = (share >> cell & 1) == 1 ? number + 1 : 0;
                Check.due("height(0, " + number + ", " + cell + ")", x.height(0, number, cell), due);
                Check.due("height(1, " + number + ", " + cell + ")", x.height(1, number, cell), due);
            }
        }
    }

    // "BAD_VALUE if kind is neither; NO_SUCH if there is no such helper, message or cell"
    private static void heightErrors() {
        ForkedStamps x = two();
        for (int kind : NO_KIND) {
            Check.due("kind " + kind, x.height(kind, 0, 0), ForkedStamps.BAD_VALUE);
            Check.due("kind " + kind + ", BAD_VALUE before NO_SUCH", x.height(kind, 2, 16), ForkedStamps.BAD_VALUE);
        }
        for (int kind = 0; kind < 2; kind++) {
            for (int none : NONE_OF_TWO) {
                Check.due("height(" + kind + ", " + none + ", 0)", x.height(kind, none, 0), ForkedStamps.NO_SUCH);
            }
            for (int cell : new int[] {Integer.MIN_VALUE, -1, 16, 17, 32, Integer.MAX_VALUE}) {
                Check.due("height(" + kind + ", 1, " + cell + ")", x.height(kind, 1, cell), ForkedStamps.NO_SUCH);
            }
            Check.due("the first cell", x.height(kind, 1, 0), 0);
            Check.due("the last cell", x.height(kind, 1, 15), 1);
        }
    }

    // "Returns 1 or 0"
    private static void knowsFirstAndLast() {
        ForkedStamps x = new ForkedStamps();
        x.fork(0);
        for (int event = 0; event < 120; event++) {
            x.event(event % 119 == 0 ? 1 : 0);
        }
        x.send(1);
        for (int event = 0; event < 120; event++) {
            int due = event == 0 || event == 119 ? 1 : 0;
            Check.due("knows(0, 1, " + event + ")", x.knows(0, 1, event), due);
            Check.due("knows(0, 0, " + event + ")", x.knows(0, 0, event), 1 - due);
            Check.due("knows(1, 0, " + event + ")", x.knows(1, 0, event), due);
        }
    }

    // "BAD_VALUE if kind is neither; NO_SUCH if there is no such helper, message or event"
    private static void knowsErrors() {
        ForkedStamps x = two();
        for (int kind : NO_KIND) {
            Check.due("kind " + kind, x.knows(kind, 0, 0), ForkedStamps.BAD_VALUE);
            Check.due("kind " + kind + ", BAD_VALUE before NO_SUCH", x.knows(kind, 2, 2), ForkedStamps.BAD_VALUE);
        }
        for (int kind = 0; kind < 2; kind++) {
            for (int none : NONE_OF_TWO) {
                Check.due("knows(" + kind + ", " + none + ", 0)", x.knows(kind, none, 0), ForkedStamps.NO_SUCH);
                Check.due("knows(" + kind + ", 1, " + none + ")", x.knows(kind, 1, none), ForkedStamps.NO_SUCH);
            }
            Check.due("the first event", x.knows(kind, 1, 0), 0);
            Check.due("the last event", x.knows(kind, 1, 1), 1);
        }
        ForkedStamps nothing = Scenes.messages(1);
        Check.due("there is no event", nothing.knows(0, 0, 0), ForkedStamps.NO_SUCH);
        Check.due("there is no event", nothing.knows(1, 0, 0), ForkedStamps.NO_SUCH);
        ForkedStamps all = Scenes.events(120);
        Check.due("the 120th one", all.knows(0, 0, 119), 1);
        Check.due("behind the 120th one", all.knows(0, 0, 120), ForkedStamps.NO_SUCH);
        all.undo();
        Check.due("an undone one", all.knows(0, 0, 119), ForkedStamps.NO_SUCH);
    }

    // "BAD_VALUE if what is out of range"
    private static void countOutOfRange() {
        ForkedStamps x = new ForkedStamps();
        for (int what : new int[] {Integer.MIN_VALUE, -1, 8, 9, Integer.MAX_VALUE}) {
            Check.due("count(" + what + ")", x.count(what), ForkedStamps.BAD_VALUE);
        }
    }

    // "0 helpers, as a set, 1 messages, 2 events so far"
    private static void countOfOneAndEight() {
        ForkedStamps x = Scenes.full();
        Check.due("all helpers", x.count(0), 255);
        Check.due("all messages", x.count(1), 8);
        Check.due("all events", x.count(2), 120);
        for (int helper = 0; helper < 7; helper++) {
            x.gather(helper, 7);
        }
        Check.due("the last helper alone", x.count(0), 128);
        for (int message = 0; message < 8; message++) {
            x.drop(0);
        }
        Check.due("no message", x.count(1), 0);
    }

    // "3 pairs of helpers whose stamps clash"
    private static void clashingPairs() {
        ForkedStamps x = Scenes.eightHelpers();
        for (int helper = 0; helper < 8; helper++) {
            x.event(helper);
            Check.due("pairs of " + (helper + 1), x.count(3), helper * (helper + 1) / 2);
        }
        ForkedStamps pair = new ForkedStamps();
        Check.due("no pair", pair.count(3), 0);
        pair.fork(0);
        Check.due("the same", pair.count(3), 0);
        pair.event(1);
        Check.due("one is behind", pair.count(3), 0);
        pair.event(0);
        Check.due("the least pair", pair.count(3), 1);
    }

    // "4 the sum of the knots of all helpers' stamps"
    private static void mostKnotsOfAll() {
        ForkedStamps x = new ForkedStamps();
        int helper = Scenes.raggedRow(x, 0);
        Check.due("one helper", x.count(4), 15);
        int[] stays = new int[8];
        stays[0] = helper;
        for (int i = 1; i < 8; i++) {
            stays[i] = x.fork(stays[(i - 1) / 2]);
        }
        Check.due("eight helpers", x.count(0), 255);
        Check.due("all have 15", x.count(4), 120);
        ForkedStamps none = Scenes.eightHelpers();
        Check.due("no knot", none.count(4), 0);
    }

    // "5 the helper whose stamp no other one's is behind, nor clashes with (the lowest one; NONE)": of several that are the same
    private static void foremostOfSame() {
        ForkedStamps x = Scenes.eightHelpers();
        Check.due("eight are the same", x.count(5), 0);
        x.gather(0, 7);
        Check.due("seven are the same", x.count(5), 1);
        for (int helper = 1; helper < 8; helper++) {
            ForkedStamps y = Scenes.eightHelpers();
            y.event(helper);
            Check.due(helper + " is behind all others", y.count(5), helper);
        }
    }

    // "(the lowest one; NONE)": none
    private static void foremostOfNone() {
        ForkedStamps x = new ForkedStamps();
        x.fork(0);
        x.fork(1);
        x.event(0);
        Check.due("0 is behind both", x.count(5), 0);
        x.event(2);
        Check.due("2 clashes with 0", x.count(5), ForkedStamps.NONE);
        x.send(0);
        x.receive(2, 0);
        Check.due("2 is behind all", x.count(5), 2);
        x.event(1);
        Check.due("1 clashes with both", x.count(5), ForkedStamps.NONE);
        x.gather(1, 0);
        Check.due("0 clashes with 2", x.count(5), ForkedStamps.NONE);
        x.gather(0, 2);
        Check.due("2 alone", x.count(5), 2);
    }

    // "no other one's": there is no other one
    private static void foremostAlone() {
        ForkedStamps x = new ForkedStamps();
        Check.due("0 alone", x.count(5), 0);
        x.event(0);
        x.send(0);
        x.undo();
        x.undo();
        Check.due("0 alone, behind undo()", x.count(5), 0);
        ForkedStamps y = Scenes.eightHelpers();
        for (int helper = 0; helper < 7; helper++) {
            y.gather(helper, 7);
        }
        Check.due("7 alone", y.count(5), 7);
    }

    // "6 the length of the pad, 7 how many changes can be undone"
    private static void padAndHistoryFull() {
        ForkedStamps x = new ForkedStamps();
        for (int i = 1; i <= 9; i++) {
            Scenes.write(x, "((((((((");
            x.event(0);
            Check.due("the pad", x.count(6), Math.min(64, 8 * i));
            Check.due("the history", x.count(7), Math.min(6, i));
        }
        x.wipe();
        Check.due("an empty pad", x.count(6), 0);
    }

    // "NO_SUCH if there is no such event"
    private static void whoseFirstAndLast() {
        ForkedStamps x = new ForkedStamps();
        Check.due("there is none", x.whose(0), ForkedStamps.NO_SUCH);
        for (int helper : new int[] {0, 0, 1, 0, 1, 2, 3}) {
            x.fork(helper);
        }
        for (int event = 0; event < 120; event++) {
            x.event(7 - event % 8);
            Check.due("whose(" + (event + 1) + ") is to come", x.whose(event + 1), ForkedStamps.NO_SUCH);
        }
        for (int event = 0; event < 120; event++) {
            Check.due("whose(" + event + ")", x.whose(event), 7 - event % 8);
        }
        for (int event : new int[] {Integer.MIN_VALUE, -1, 120, 121, 128, Integer.MAX_VALUE}) {
            Check.due("whose(" + event + ")", x.whose(event), ForkedStamps.NO_SUCH);
        }
        x.undo();
        Check.due("an undone one", x.whose(119), ForkedStamps.NO_SUCH);
        Check.due("the one before it", x.whose(118), 1);
    }

    // "Returns the helper's number as it was then"
    private static void whoseNumberAsItWas() {
        ForkedStamps x = new ForkedStamps();
        x.fork(0);
        x.event(1);
        x.gather(1, 0);
        Check.due("1 is there no more", x.whose(0), 1);
        x.fork(0);
        Check.due("1 is another one", x.whose(0), 1);
        Check.due("who knows it, too", x.knows(0, 1, 0), 1);
    }

    // "if no height of it is greater, and some is less": one height is enough
    private static void orderByOneCell() {
        for (int cell = 0; cell < 16; cell += 15) {
            ForkedStamps x = new ForkedStamps();
            for (int i = 0; i < 4; i++) {
                x.fork(cell == 0 ? 0 : i);
            }
            int owner = cell == 0 ? 0 : 4;
            x.send(owner);
            Check.due("no height differs", x.order(0, owner, 1, 0), ForkedStamps.SAME);
            x.event(owner);
            Check.due("greater in the cell " + cell, x.order(0, owner, 1, 0), ForkedStamps.BEHIND);
            Check.due("less in the cell " + cell, x.order(1, 0, 0, owner), ForkedStamps.BEFORE);
            x.event(3);
            Check.due("greater in one, less in another one", x.order(0, owner, 0, 3), ForkedStamps.CLASH);
            Check.due("and the other way", x.order(0, 3, 0, owner), ForkedStamps.CLASH);
            Check.due("a helper and itself", x.order(0, owner, 0, owner), ForkedStamps.SAME);
        }
    }

    // "BAD_VALUE if a kind is out of range; NO_SUCH if there is no such helper or message"; for more(): "errors as for order()"
    private static void orderErrors() {
        ForkedStamps x = two();
        for (int kind : NO_KIND) {
            Check.due("order, first kind " + kind, x.order(kind, 0, 0, 0), ForkedStamps.BAD_VALUE);
            Check.due("order, other kind " + kind, x.order(0, 0, kind, 0), ForkedStamps.BAD_VALUE);
            Check.due("order, BAD_VALUE before NO_SUCH", x.order(0, 2, kind, 0), ForkedStamps.BAD_VALUE);
            Check.due("order, BAD_VALUE before NO_SUCH", x.order(kind, 0, 1, 2), ForkedStamps.BAD_VALUE);
            Check.due("more, first kind " + kind, x.more(kind, 0, 0, 0), ForkedStamps.BAD_VALUE);
            Check.due("more, other kind " + kind, x.more(0, 0, kind, 0), ForkedStamps.BAD_VALUE);
            Check.due("more, BAD_VALUE before NO_SUCH", x.more(0, 2, kind, 0), ForkedStamps.BAD_VALUE);
            Check.due("more, BAD_VALUE before NO_SUCH", x.more(kind, 0, 1, 2), ForkedStamps.BAD_VALUE);
        }
        for (int none : NONE_OF_TWO) {
            for (int kinds = 0; kinds < 4; kinds++) {
                int kind = kinds % 2;
                int otherKind = kinds / 2;
                Check.due("order, first " + none, x.order(kind, none, otherKind, 1), ForkedStamps.NO_SUCH);
                Check.due("order, other " + none, x.order(kind, 1, otherKind, none), ForkedStamps.NO_SUCH);
                Check.due("more, first " + none, x.more(kind, none, otherKind, 1), ForkedStamps.NO_SUCH);
                Check.due("more, other " + none, x.more(kind, 1, otherKind, none), ForkedStamps.NO_SUCH);
            }
        }
    }

    // "how many events one knows that another one does not"
    private static void moreOfNothingAndAll() {
        ForkedStamps x = new ForkedStamps();
        x.fork(0);
        x.send(0);
        Check.due("nothing is known", x.more(0, 0, 0, 1), 0);
        for (int event = 0; event < 120; event++) {
            x.event(1);
            Check.due("1 before 0", x.more(0, 1, 0, 0), event + 1);
        }
        Check.due("0 before 1", x.more(0, 0, 0, 1), 0);
        Check.due("1 before the message", x.more(0, 1, 1, 0), 120);
        Check.due("1 before itself", x.more(0, 1, 0, 1), 0);
        x.gather(1, 0);
        Check.due("0 before the message", x.more(0, 0, 1, 0), 120);
    }

    // "NO_SUCH if there is no such helper; BAD_TEXT if the pad has a fault"
    private static void orderToPadErrors() {
        ForkedStamps x = two();
        for (int helper : NONE_OF_TWO) {
            Check.due("orderToPad(" + helper + "), empty pad", x.orderToPad(helper), ForkedStamps.NO_SUCH);
        }
        Check.due("an empty pad", x.orderToPad(0), ForkedStamps.BAD_TEXT);
        Scenes.write(x, "1");
        Check.due("now it is a stamp", x.orderToPad(0), ForkedStamps.BEFORE);
        for (int helper : NONE_OF_TWO) {
            Check.due("orderToPad(" + helper + ")", x.orderToPad(helper), ForkedStamps.NO_SUCH);
        }
        Scenes.write(x, ",");
        Check.due("now it has a fault", x.orderToPad(0), ForkedStamps.BAD_TEXT);
        x.wipe();
        Check.due("an empty pad again", x.orderToPad(0), ForkedStamps.BAD_TEXT);
    }

    // "The pad is a text of at most 64 characters. As a stamp it is such a text"
    private static void orderToLongestPad() {
        ForkedStamps x = new ForkedStamps();
        x.event(0);
        Scenes.write(x, "((((1,1),(1,1)),((1,1),(1,1))),(((1,1),(1,1)),((1,1),(10,100))))");
        Check.due("its length", x.count(6), 64);
        Check.due("its fault", x.fault(), ForkedStamps.NONE);
        Check.due("the order", x.orderToPad(0), ForkedStamps.BEFORE);
        x.wipe();
        Scenes.write(x, "((((250,1),(1,1)),((1,1),(1,1))),(((1,1),(1,1)),((1,1),(1,0))))");
        Check.due("its length", x.count(6), 63);
        Check.due("the order", x.orderToPad(0), ForkedStamps.CLASH);
        x.wipe();
        Scenes.write(x, "((((1,1),(1,1)),((1,1),(1,1))),(((1,1),(1,1)),((1,1),(1,0))))");
        Check.due("less in the last cell", x.orderToPad(0), ForkedStamps.BEHIND);
        x.wipe();
        Scenes.write(x, "((((1,1),(1,1)),((1,1),(1,1))),(((1,1),(1,1)),((1,1),(1,1))))");
        Check.due("knots whose halves are the same", x.orderToPad(0), ForkedStamps.SAME);
    }

    // "place: 0 for the first one"
    private static void printedFirstAndLast() {
        ForkedStamps x = new ForkedStamps();
        Check.due("the first one is the last one", x.printed(0, 0), '0');
        Check.due("behind it", x.printed(0, 1), ForkedStamps.NO_SUCH);
        Check.due("before it", x.printed(0, -1), ForkedStamps.NO_SUCH);
        x.fork(0);
        x.event(1);
        Check.due("the first one", x.printed(1, 0), '(');
        Check.due("the last one", x.printed(1, 4), ')');
        Check.due("behind it", x.printed(1, 5), ForkedStamps.NO_SUCH);
        Check.due("before it", x.printed(1, -1), ForkedStamps.NO_SUCH);
        Check.due("behind the shorter one", x.printed(0, 1), ForkedStamps.NO_SUCH);
    }

    // The pad has at most 64 characters; a stamp as a text can have more.
    private static void printedBeyondThePad() {
        ForkedStamps x = new ForkedStamps();
        int helper = Scenes.raggedRow(x, 100);
        Check.due("its length", x.of(helper, 7), 93);
        String text = "((((101,100),(101,100)),((101,100),(101,100))),(((101,100),(101,100)),((101,100),(101,100))))";
        for (int place = 0; place < 93; place++) {
            Check.due("place " + place, x.printed(helper, place), text.charAt(place));
        }
        Check.due("behind it", x.printed(helper, 93), ForkedStamps.NO_SUCH);
    }

    // "NO_SUCH if there is no such helper or character"
    private static void printedErrors() {
        ForkedStamps x = two();
        for (int helper : NONE_OF_TWO) {
            Check.due("printed(" + helper + ", 0)", x.printed(helper, 0), ForkedStamps.NO_SUCH);
        }
        for (int place : new int[] {Integer.MIN_VALUE, -1, 5, 6, 64, Integer.MAX_VALUE}) {
            Check.due("printed(0, " + place + ")", x.printed(0, place), ForkedStamps.NO_SUCH);
        }
        x.gather(1, 0);
        Check.due("who is gone", x.printed(1, 0), ForkedStamps.NO_SUCH);
    }

    // "how many events more the helper would know (with the event of its own)": at least that one
    private static void ifReceiveNothingNew() {
        ForkedStamps x = Scenes.messages(1);
        Check.due("the own event alone", x.ifReceive(0, 0, 0), 1);
        Check.due("behind the message", x.ifReceive(0, 0, 1), ForkedStamps.BEHIND);
        Check.due("no knots", x.ifReceive(0, 0, 2), 0);
        Check.due("no event has happened", x.count(2), 0);
        // The own cells have unlike heights: the event levels them, and brings no greater one.
        x.fork(0);
        x.event(1);
        x.event(0);
        x.event(0);
        x.send(1);
        x.gather(1, 0);
        Check.due("the own event alone", x.ifReceive(0, 1, 0), 1);
        Check.due("all cells get 2", x.ifReceive(0, 1, 2), 0);
        Check.due("behind the message", x.ifReceive(0, 1, 1), ForkedStamps.BEHIND);
        ForkedStamps y = new ForkedStamps();
        y.fork(0);
        y.fork(1);
        y.event(0);
        y.event(1);
        y.gather(2, 1);
        y.send(0);
        Check.due("the knots of 1 now", y.of(1, 6), 2);
        Check.due("0 has 1, 8 to 15 get 1", y.ifReceive(1, 0, 2), 0);
        Check.due("two more", y.ifReceive(1, 0, 0), 2);
        Check.due("the knots of 1 still", y.of(1, 6), 2);
        // Each answer is for the helper and the message that are asked for, whatever was asked before.
        y.event(1);
        y.send(1);
        y.ifReceive(0, 1, 2);
        Check.due("0 by its own message", y.ifReceive(0, 0, 2), 1);
        Check.due("1 by its own message", y.ifReceive(1, 1, 2), 1);
    }

    // "(however many events there were)"
    private static void ifReceiveBehindAllEvents() {
        ForkedStamps x = new ForkedStamps();
        x.fork(0);
        for (int event = 0; event < 120; event++) {
            x.event(0);
        }
        x.send(0);
        Check.due("receive(1, 0)", x.receive(1, 0), ForkedStamps.TOO_MANY);
        Check.due("events", x.ifReceive(1, 0, 0), 121);
        Check.due("order", x.ifReceive(1, 0, 1), ForkedStamps.BEHIND);
        Check.due("knots", x.ifReceive(1, 0, 2), 1);
        Check.due("events of the sender", x.ifReceive(0, 0, 0), 1);
        Check.due("order of the sender", x.ifReceive(0, 0, 1), ForkedStamps.BEHIND);
        Check.due("there were 120", x.count(2), 120);
        Check.due("1 knows none", x.of(1, 4), 0);
    }

    // "NO_SUCH if there is no such helper or message; BAD_VALUE if what is out of range"
    private static void ifReceiveErrors() {
        ForkedStamps x = two();
        for (int none : NONE_OF_TWO) {
            for (int what = -1; what <= 3; what++) {
                Check.due("ifReceive(" + none + ", 0, " + what + ")", x.ifReceive(none, 0, what), ForkedStamps.NO_SUCH);
                Check.due("ifReceive(0, " + none + ", " + what + ")", x.ifReceive(0, none, what), ForkedStamps.NO_SUCH);
            }
        }
        for (int what : new int[] {Integer.MIN_VALUE, -1, 3, 4, Integer.MAX_VALUE}) {
            Check.due("ifReceive(1, 1, " + what + ")", x.ifReceive(1, 1, what), ForkedStamps.BAD_VALUE);
        }
    }

    // "of all events so far it knows the fewest": there were none, or all are known
    private static void laggardOfNothing() {
        ForkedStamps x = new ForkedStamps();
        Check.due("no event", x.laggard(0), 0);
        Check.due("no event is missed", x.laggard(1), 0);
        x.event(0);
        Check.due("all are known", x.laggard(0), 0);
        Check.due("none is missed", x.laggard(1), 0);
        x.fork(0);
        x.gather(0, 1);
        Check.due("1 alone", x.laggard(0), 1);
        Check.due("it missed none", x.laggard(1), 0);
        for (int event = 1; event < 120; event++) {
            x.event(1);
        }
        Check.due("all 120 are known", x.laggard(1), 0);
        ForkedStamps y = new ForkedStamps();
        y.fork(0);
        for (int event = 0; event < 120; event++) {
            y.event(0);
        }
        Check.due("1 knows none", y.laggard(0), 1);
        Check.due("it missed all", y.laggard(1), 120);
    }

    // "of several the lowest one"
    private static void laggardOfSeveral() {
        ForkedStamps x = Scenes.eightHelpers();
        for (int helper = 0; helper < 8; helper++) {
            Check.due("the lowest one that had none", x.laggard(0), helper);
            Check.due("it missed", x.laggard(1), helper);
            x.event(helper);
        }
        Check.due("each one had one", x.laggard(0), 0);
        Check.due("it missed seven", x.laggard(1), 7);
        x.gather(0, 7);
        Check.due("0 is gone", x.laggard(0), 1);
        Check.due("1 missed seven, too", x.laggard(1), 7);
    }

    // "BAD_VALUE if what is neither 0 nor 1"
    private static void laggardOutOfRange() {
        ForkedStamps x = new ForkedStamps();
        for (int what : new int[] {Integer.MIN_VALUE, -1, 2, 3, Integer.MAX_VALUE}) {
            Check.due("laggard(" + what + ")", x.laggard(what), ForkedStamps.BAD_VALUE);
        }
    }
}
