/** Promises 14 to 19: orders, what receiving would bring, and who has missed the most. */
public final class OrdersTest {
    public static void main(String[] args) {
        order();
        more();
        kindErrors();
        orderToPad();
        orderToPadErrors();
        printed();
        longText();
        ifReceive();
        ifReceiveBehindTheLastEvent();
        laggard();
        Check.end();
    }

    /** 0 and 1 clash; the messages 0 and 1 are theirs, then 1 received the first one. */
    private static ForkedStamps talk() {
        ForkedStamps x = new ForkedStamps();
        x.fork(0);
        x.event(0);
        x.event(1);
        x.event(1);
        x.send(0);
        x.send(1);
        x.receive(1, 0);
        return x;
    }

    private static void order() {
        ForkedStamps x = talk();
        Check.due("a helper and itself", x.order(0, 1, 0, 1), ForkedStamps.SAME);
        Check.due("a message and itself", x.order(1, 1, 1, 1), ForkedStamps.SAME);
        Check.due("0 and its message", x.order(0, 0, 1, 0), ForkedStamps.SAME);
        Check.due("the message and 0", x.order(1, 0, 0, 0), ForkedStamps.SAME);
        Check.due("0 and 1", x.order(0, 0, 0, 1), ForkedStamps.BEFORE);
        Check.due("1 and 0", x.order(0, 1, 0, 0), ForkedStamps.BEHIND);
        Check.due("0 and message 1", x.order(0, 0, 1, 1), ForkedStamps.CLASH);
        Check.due("message 1 and 0", x.order(1, 1, 0, 0), ForkedStamps.CLASH);
        Check.due("both messages", x.order(1, 0, 1, 1), ForkedStamps.CLASH);
        Check.due("message 1 and 1", x.order(1, 1, 0, 1), ForkedStamps.BEFORE);
        Check.due("1 and message 1", x.order(0, 1, 1, 1), ForkedStamps.BEHIND);
    }

    private static void more() {
        ForkedStamps x = talk();
        Check.due("0 and 1", x.more(0, 0, 0, 1), 0);
        Check.due("1 and 0", x.more(0, 1, 0, 0), 3);
        Check.due("1 and message 1", x.more(0, 1, 1, 1), 2);
        Check.due("message 1 and 1", x.more(1, 1, 0, 1), 0);
        Check.due("message 1 and message 0", x.more(1, 1, 1, 0), 2);
        Check.due("message 0 and message 1", x.more(1, 0, 1, 1), 1);
        Check.due("1 and itself", x.more(0, 1, 0, 1), 0);
        for (int event = 4; event < 120; event++) {
            x.event(event % 4 / 3);
        }
        Check.due("0 and 1", x.more(0, 0, 0, 1), 87);
        Check.due("1 and 0", x.more(0, 1, 0, 0), 3 + 29);
        Check.due("0 and message 1", x.more(0, 0, 1, 1), 88);
    }

    private static void kindErrors() {
        ForkedStamps x = talk();
        int[][] bad = {{2, 0, 0, 0}, {-1, 0, 0, 0}, {0, 0, 2, 0}, {0, 0, -1, 0}, {1, 9, 2, 0}, {2, 9, 1, 9}, {7, 9, 7, 9}};
        for (int[] c : bad) {
            Check.due("order of a bad kind", x.order(c[0], c[1], c[2], c[3]), ForkedStamps.BAD_VALUE);
            Check.due("more of a bad kind", x.more(c[0], c[1], c[2], c[3]), ForkedStamps.BAD_VALUE);
        }
        int[][] missing = {{0, 2, 0, 0}, {0, 0, 0, 2}, {1, 2, 0, 0}, {0, 0, 1, 2}, {0, -1, 0, 0}, {0, 0, 0, -1}, {0, 8, 0, 0},
            {0, 0, 1, -1}, {1, -1, 1, 0}, {1, 8, 1, 0}, {0, 0, 0, 8}, {0, 0, 1, 8}};
        for (int[] c : missing) {
            Check.due("order of none", x.order(c[0], c[1], c[2], c[3]), ForkedStamps.NO_SUCH);
            Check.due("more of none", x.more(c[0], c[1], c[2], c[3]), ForkedStamps.NO_SUCH);
        }
    }

    private static void orderToPad() {
        ForkedStamps x = new ForkedStamps();
        x.event(0);
        x.event(0);
        x.fork(0);
        x.event(1);
        String[] same = {"(2,3)", "((2,2),3)", "((2,(2,2)),(3,(3,(3,3))))"};
        String[] before = {"(3,3)", "3", "250", "(2,(3,(3,(3,4))))"};
        String[] behind = {"0", "2", "(0,3)", "(2,((2,3),3))"};
        String[] clash = {"(3,2)", "(1,4)", "(((3,2),2),(3,(3,(2,3))))", "(250,0)"};
        for (String text : same) {
            Check.rewrite(x, text);
            Check.due("1 to " + text, x.orderToPad(1), ForkedStamps.SAME);
        }
        for (String text : before) {
            Check.rewrite(x, text);
            Check.due("1 to " + text, x.orderToPad(1), ForkedStamps.BEFORE);
        }
        for (String text : behind) {
            Check.rewrite(x, text);
            Check.due("1 to " + text, x.orderToPad(1), ForkedStamps.BEHIND);
        }
        for (String text : clash) {
            Check.rewrite(x, text);
            Check.due("1 to " + text, x.orderToPad(1), ForkedStamps.CLASH);
        }
        Check.rewrite(x, "2");
        Check.due("0 to 2", x.orderToPad(0), ForkedStamps.SAME);
        Check.due("1 to 2", x.orderToPad(1), ForkedStamps.BEHIND);
    }

    private static void orderToPadErrors() {
        ForkedStamps x = new ForkedStamps();
        Check.due("an empty pad", x.orderToPad(0), ForkedStamps.BAD_TEXT);
        Check.due("NO_SUCH comes before BAD_TEXT", x.orderToPad(1), ForkedStamps.NO_SUCH);
        Check.due("orderToPad(-1)", x.orderToPad(-1), ForkedStamps.NO_SUCH);
        Check.due("orderToPad(8)", x.orderToPad(8), ForkedStamps.NO_SUCH);
        Check.write(x, "(0,0");
        Check.due("it ends too early", x.orderToPad(0), ForkedStamps.BAD_TEXT);
        Check.write(x, ")");
        Check.due("now it is a stamp", x.orderToPad(0), ForkedStamps.SAME);
        Check.write(x, ")");
        Check.due("it has too much", x.orderToPad(0), ForkedStamps.BAD_TEXT);
    }

    private static void printed() {
        ForkedStamps x = talk();
        Check.same("the text of 0", Check.textOf(x, 0), "(1,0)");
        Check.same("the text of 1", Check.textOf(x, 1), "(1,3)");
        Check.due("printed(0, 0)", x.printed(0, 0), '(');
        Check.due("printed(0, 1)", x.printed(0, 1), '1');
        Check.due("printed(0, 2)", x.printed(0, 2), ',');
        Check.due("printed(0, 4)", x.printed(0, 4), ')');
        Check.due("printed(0, 5)", x.printed(0, 5), ForkedStamps.NO_SUCH);
        Check.due("printed(0, -1)", x.printed(0, -1), ForkedStamps.NO_SUCH);
        Check.due("printed(0, MIN)", x.printed(0, Integer.MIN_VALUE), ForkedStamps.NO_SUCH);
        Check.due("printed(0, MAX)", x.printed(0, Integer.MAX_VALUE), ForkedStamps.NO_SUCH);
        Check.due("printed(2, 0)", x.printed(2, 0), ForkedStamps.NO_SUCH);
        Check.due("printed(-1, 0)", x.printed(-1, 0), ForkedStamps.NO_SUCH);
        Check.due("printed(8, 0)", x.printed(8, 0), ForkedStamps.NO_SUCH);
        x = new ForkedStamps();
        for (int i = 0; i < 109; i++) {
            x.event(0);
        }
        Check.same("a number of three digits", Check.textOf(x, 0), "109");
        Check.due("of(0, 7)", x.of(0, 7), 3);
        x.fork(0);
        x.event(0);
        Check.same("a zero inside", Check.textOf(x, 0), "(110,109)");
        Check.write(x, "(110,109)");
        Check.due("what was printed can be read", x.orderToPad(0), ForkedStamps.SAME);
    }

    /** Makes the sixteen cells of 0 different, which needs shares that are moved cell by cell. */
    private static void longText() {
        ForkedStamps x = new ForkedStamps();
        for (int i = 0; i < 100; i++) {
            x.event(0);
        }
        // 0 keeps one cell at a time for its events, the others wait with 1.
        for (int turn = 0; turn < 4; turn++) {
            x.fork(0);
            x.event(turn + 1);
        }
        for (int helper = 4; helper >= 1; helper--) {
            x.gather(helper, 0);
        }
        Check.same("its text", Check.textOf(x, 0), "((((100,101),101),101),101)");
        Check.due("its length", x.of(0, 7), 27);
        for (int turn = 0; turn < 3; turn++) {
            x.fork(0);
        }
        x.event(2);
        x.gather(3, 0);
        x.gather(2, 1);
        x.fork(1);
        x.fork(1);
        x.event(3);
        x.event(3);
        x.gather(1, 0);
        x.gather(2, 0);
        x.gather(3, 0);
        String text = Check.textOf(x, 0);
        Check.due("its length", x.of(0, 7), text.length());
        Check.rewrite(x, text);
        Check.due(text + " is read as it was", x.orderToPad(0), ForkedStamps.SAME);
    }

    private static void ifReceive() {
        ForkedStamps x = talk();
        String before = Check.allOf(x);
        Check.due("0 by message 1, events", x.ifReceive(0, 1, 0), 3);
        Check.due("0 by message 1, order", x.ifReceive(0, 1, 1), ForkedStamps.BEHIND);
        Check.due("0 by message 1, knots", x.ifReceive(0, 1, 2), 0);
        Check.due("0 by message 0, events", x.ifReceive(0, 0, 0), 1);
        Check.due("0 by message 0, order", x.ifReceive(0, 0, 1), ForkedStamps.BEHIND);
        Check.due("0 by message 0, knots", x.ifReceive(0, 0, 2), 1);
        Check.due("1 by message 0, events", x.ifReceive(1, 0, 0), 1);
        Check.due("1 by message 0, knots", x.ifReceive(1, 0, 2), 1);
        Check.same("nothing changed", Check.allOf(x), before);
        int known = x.of(0, 4);
        x.receive(0, 1);
        Check.due("what it brought", x.of(0, 4) - known, 3);
        Check.due("the knots behind it", x.of(0, 6), 0);
        Check.due("the order behind it", x.order(0, 0, 1, 1), ForkedStamps.BEHIND);
        Check.due("ifReceive(0, 0, 3)", x.ifReceive(0, 0, 3), ForkedStamps.BAD_VALUE);
        Check.due("ifReceive(0, 0, -1)", x.ifReceive(0, 0, -1), ForkedStamps.BAD_VALUE);
        Check.due("NO_SUCH comes before BAD_VALUE", x.ifReceive(2, 0, 3), ForkedStamps.NO_SUCH);
        Check.due("NO_SUCH comes before BAD_VALUE", x.ifReceive(0, 2, 3), ForkedStamps.NO_SUCH);
        Check.due("ifReceive(-1, 0, 0)", x.ifReceive(-1, 0, 0), ForkedStamps.NO_SUCH);
        Check.due("ifReceive(8, 0, 0)", x.ifReceive(8, 0, 0), ForkedStamps.NO_SUCH);
        Check.due("ifReceive(0, -1, 0)", x.ifReceive(0, -1, 0), ForkedStamps.NO_SUCH);
        Check.due("ifReceive(0, 8, 0)", x.ifReceive(0, 8, 0), ForkedStamps.NO_SUCH);
    }

    private static void ifReceiveBehindTheLastEvent() {
        ForkedStamps x = new ForkedStamps();
        x.fork(0);
        for (int event = 0; event < 120; event++) {
            x.event(1);
        }
        x.send(1);
        Check.due("receive(0, 0)", x.receive(0, 0), ForkedStamps.TOO_MANY);
        Check.due("events", x.ifReceive(0, 0, 0), 121);
        Check.due("order", x.ifReceive(0, 0, 1), ForkedStamps.BEHIND);
        Check.due("knots", x.ifReceive(0, 0, 2), 1);
        Check.due("knots of 1", x.ifReceive(1, 0, 2), 1);
        Check.due("count(2)", x.count(2), 120);
    }

    private static void laggard() {
        ForkedStamps x = new ForkedStamps();
        Check.due("alone", x.laggard(0), 0);
        Check.due("alone, missed", x.laggard(1), 0);
        x.fork(0);
        x.fork(1);
        Check.due("of several the lowest one", x.laggard(0), 0);
        x.event(0);
        Check.due("1 and 2 know none", x.laggard(0), 1);
        Check.due("missed", x.laggard(1), 1);
        x.event(1);
        x.event(1);
        Check.due("2 knows none", x.laggard(0), 2);
        Check.due("missed", x.laggard(1), 3);
        x.send(1);
        x.receive(2, 0);
        Check.due("0 knows one of four", x.laggard(0), 0);
        Check.due("missed", x.laggard(1), 3);
        x.gather(0, 1);
        Check.due("1 and 2 know three of four", x.laggard(0), 1);
        Check.due("missed", x.laggard(1), 1);
        Check.due("laggard(2)", x.laggard(2), ForkedStamps.BAD_VALUE);
        Check.due("laggard(-1)", x.laggard(-1), ForkedStamps.BAD_VALUE);
        Check.due("laggard(MIN)", x.laggard(Integer.MIN_VALUE), ForkedStamps.BAD_VALUE);
    }
}
