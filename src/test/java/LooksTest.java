/** Promises 8 to 13: what there is. */
public final class LooksTest {
    public static void main(String[] args) {
        ofHelper();
        latestKnownEvent();
        knotsAndTexts();
        ofMessage();
        height();
        knows();
        count();
        foremost();
        whose();
        Check.end();
    }

    /** 0 has the cells 0 to 7, 1 has 8 to 11, 2 has 12 to 15. */
    private static ForkedStamps three() {
        ForkedStamps x = new ForkedStamps();
        x.fork(0);
        x.fork(1);
        return x;
    }

    private static void ofHelper() {
        ForkedStamps x = three();
        int[] ofNew = {0x00FF, 8, 0, 0, 0, ForkedStamps.NONE, 0, 1};
        for (int what = 0; what < 8; what++) {
            Check.due("nothing happened: of(0, " + what + ")", x.of(0, what), ofNew[what]);
        }
        x.event(1);
        x.event(1);
        x.event(2);
        x.send(1);
        x.receive(0, 0);
        Check.due("of(0, 0)", x.of(0, 0), 0x00FF);
        Check.due("of(1, 0)", x.of(1, 0), 0x0F00);
        Check.due("of(2, 0)", x.of(2, 0), 0xF000);
        Check.due("of(0, 1)", x.of(0, 1), 8);
        Check.due("of(1, 1)", x.of(1, 1), 4);
        Check.due("of(0, 2), in a cell that is not its own", x.of(0, 2), 2);
        Check.due("of(2, 2)", x.of(2, 2), 1);
        Check.due("of(0, 3)", x.of(0, 3), 16);
        Check.due("of(2, 3)", x.of(2, 3), 4);
        Check.due("of(0, 4)", x.of(0, 4), 3);
        Check.due("of(2, 4)", x.of(2, 4), 1);
        Check.due("of(2, 5)", x.of(2, 5), 2);
        Check.due("of(0, 5)", x.of(0, 5), 3);
        Check.due("of(0, 6)", x.of(0, 6), 2);
        Check.due("of(0, 7)", x.of(0, 7), 9);
        Check.due("of(0, 8)", x.of(0, 8), ForkedStamps.BAD_VALUE);
        Check.due("of(0, -1)", x.of(0, -1), ForkedStamps.BAD_VALUE);
        Check.due("of(0, MIN)", x.of(0, Integer.MIN_VALUE), ForkedStamps.BAD_VALUE);
        Check.due("NO_SUCH comes before BAD_VALUE", x.of(3, 8), ForkedStamps.NO_SUCH);
        Check.due("of(-1, 0)", x.of(-1, 0), ForkedStamps.NO_SUCH);
        Check.due("of(8, 0)", x.of(8, 0), ForkedStamps.NO_SUCH);
    }

    private static void latestKnownEvent() {
        ForkedStamps x = three();
        Check.due("none is known", x.of(0, 5), ForkedStamps.NONE);
        for (int event = 0; event < 120; event++) {
            int helper = event % 3;
            x.event(helper);
            Check.due("the latest one of " + helper, x.of(helper, 5), event);
            Check.due("how many " + helper + " knows", x.of(helper, 4), event / 3 + 1);
        }
        x.send(2);
        x.gather(0, 1);
        Check.due("the latest one of both", x.of(1, 5), 118);
        Check.due("the events of both", x.of(1, 4), 80);
        Check.due("of the message", x.ofMessage(0, 2), 40);
    }

    private static void knotsAndTexts() {
        ForkedStamps x = new ForkedStamps();
        for (int helper : new int[] {0, 0, 1, 0, 1, 2, 3}) {
            x.fork(helper);
        }
        Check.due("a leaf has no knot", x.of(0, 6), 0);
        Check.due("0", x.of(0, 7), 1);
        x.event(4);
        Check.same("the share of 4", String.valueOf(x.of(4, 0)), "12");
        Check.due("a leaf of two cells", x.of(4, 6), 3);
        Check.same("its text", Check.textOf(x, 4), "(((0,1),0),0)");
        Check.due("its length", x.of(4, 7), 13);
        for (int helper = 0; helper < 4; helper++) {
            x.event(helper);
            x.event(helper);
        }
        for (int helper = 0; helper < 7; helper++) {
            x.send(helper);
        }
        for (int message = 0; message < 7; message++) {
            x.receive(7, message);
        }
        Check.same("its heights", Check.heightsOf(x, 0, 7), "2 2 1 1 2 2 0 0 2 2 0 0 2 2 7 7");
        Check.same("its text", Check.textOf(x, 7), "(((2,1),(2,0)),((2,0),(2,7)))");
        Check.due("its knots", x.of(7, 6), 7);
        Check.due("its length", x.of(7, 7), 29);
    }

    private static void ofMessage() {
        ForkedStamps x = three();
        x.event(2);
        x.event(1);
        x.event(1);
        x.send(1);
        x.send(2);
        x.event(1);
        Check.due("ofMessage(0, 0)", x.ofMessage(0, 0), 1);
        Check.due("ofMessage(1, 0)", x.ofMessage(1, 0), 2);
        Check.due("ofMessage(0, 1)", x.ofMessage(0, 1), 8);
        Check.due("ofMessage(1, 1)", x.ofMessage(1, 1), 4);
        Check.due("ofMessage(0, 2)", x.ofMessage(0, 2), 2);
        Check.due("ofMessage(1, 2)", x.ofMessage(1, 2), 1);
        Check.due("ofMessage(0, 3)", x.ofMessage(0, 3), 2);
        Check.due("ofMessage(0, 4)", x.ofMessage(0, 4), ForkedStamps.BAD_VALUE);
        Check.due("ofMessage(0, -1)", x.ofMessage(0, -1), ForkedStamps.BAD_VALUE);
        Check.due("NO_SUCH comes before BAD_VALUE", x.ofMessage(2, 4), ForkedStamps.NO_SUCH);
        Check.due("ofMessage(-1, 0)", x.ofMessage(-1, 0), ForkedStamps.NO_SUCH);
        Check.due("ofMessage(8, 0)", x.ofMessage(8, 0), ForkedStamps.NO_SUCH);
    }

    private static void height() {
        ForkedStamps x = three();
        x.event(1);
        x.send(1);
        x.event(1);
        Check.due("height(0, 1, 7)", x.height(0, 1, 7), 0);
        Check.due("height(0, 1, 8)", x.height(0, 1, 8), 2);
        Check.due("height(0, 1, 11)", x.height(0, 1, 11), 2);
        Check.due("height(0, 1, 12)", x.height(0, 1, 12), 0);
        Check.due("height(1, 0, 8)", x.height(1, 0, 8), 1);
        Check.due("height(1, 0, 0)", x.height(1, 0, 0), 0);
        Check.due("height(1, 0, 15)", x.height(1, 0, 15), 0);
        Check.due("height(0, 1, 16)", x.height(0, 1, 16), ForkedStamps.NO_SUCH);
        Check.due("height(0, 1, -1)", x.height(0, 1, -1), ForkedStamps.NO_SUCH);
        Check.due("height(1, 0, 16)", x.height(1, 0, 16), ForkedStamps.NO_SUCH);
        Check.due("height(0, 3, 0)", x.height(0, 3, 0), ForkedStamps.NO_SUCH);
        Check.due("height(0, -1, 0)", x.height(0, -1, 0), ForkedStamps.NO_SUCH);
        Check.due("height(1, 1, 0)", x.height(1, 1, 0), ForkedStamps.NO_SUCH);
        Check.due("height(2, 0, 0)", x.height(2, 0, 0), ForkedStamps.BAD_VALUE);
        Check.due("BAD_VALUE comes before NO_SUCH", x.height(-1, 9, 16), ForkedStamps.BAD_VALUE);
    }

    /** 120 events of 0 and 1 in turn; the message of 1 was sent before the last one. */
    private static ForkedStamps knowing() {
        ForkedStamps x = three();
        for (int event = 0; event < 119; event++) {
            x.event(event % 2);
        }
        x.send(1);
        x.event(1);
        return x;
    }

    private static void knows() {
        ForkedStamps x = knowing();
        for (int event = 0; event < 120; event++) {
            Check.due("knows(0, 0, " + event + ")", x.knows(0, 0, event), event < 119 ? 1 - event % 2 : 0);
            Check.due("knows(0, 1, " + event + ")", x.knows(0, 1, event), event < 119 ? event % 2 : 1);
        }
        x = knowing();
        for (int event = 0; event < 120; event++) {
            Check.due("knows(1, 0, " + event + ")", x.knows(1, 0, event), event < 119 ? event % 2 : 0);
            Check.due("knows(0, 2, " + event + ")", x.knows(0, 2, event), 0);
        }
        Check.due("knows(0, 0, 120)", x.knows(0, 0, 120), ForkedStamps.NO_SUCH);
        Check.due("knows(0, 0, -1)", x.knows(0, 0, -1), ForkedStamps.NO_SUCH);
        Check.due("knows(0, 3, 0)", x.knows(0, 3, 0), ForkedStamps.NO_SUCH);
        Check.due("knows(1, 1, 0)", x.knows(1, 1, 0), ForkedStamps.NO_SUCH);
        Check.due("knows(1, -1, 0)", x.knows(1, -1, 0), ForkedStamps.NO_SUCH);
        Check.due("knows(2, 0, 0)", x.knows(2, 0, 0), ForkedStamps.BAD_VALUE);
        Check.due("BAD_VALUE comes before NO_SUCH", x.knows(-1, 9, 120), ForkedStamps.BAD_VALUE);
        x.undo();
        Check.due("an event that was undone", x.knows(0, 1, 119), ForkedStamps.NO_SUCH);
    }

    private static void count() {
        ForkedStamps x = three();
        Check.due("count(0)", x.count(0), 7);
        Check.due("no pair clashes", x.count(3), 0);
        x.event(1);
        Check.due("1 is behind the others", x.count(3), 0);
        x.event(2);
        Check.due("1 and 2 clash", x.count(3), 1);
        x.event(0);
        Check.due("each one clashes with each one", x.count(3), 3);
        Check.due("the knots of 0 to 2", x.count(4), 1 + 2 + 2);
        x.send(1);
        x.send(1);
        Check.due("count(1)", x.count(1), 2);
        Check.due("count(2)", x.count(2), 3);
        Check.due("count(6)", x.count(6), 0);
        Check.write(x, "(1,2)");
        Check.due("count(6)", x.count(6), 5);
        Check.due("count(7)", x.count(7), 6);
        x.gather(0, 2);
        Check.due("count(0)", x.count(0), 6);
        Check.due("who is gone does not clash", x.count(3), 1);
        Check.due("who is gone has no knots", x.count(4), 2 + 2);
        Check.due("count(8)", x.count(8), ForkedStamps.BAD_VALUE);
        Check.due("count(-1)", x.count(-1), ForkedStamps.BAD_VALUE);
        Check.due("count(MAX)", x.count(Integer.MAX_VALUE), ForkedStamps.BAD_VALUE);
    }

    private static void foremost() {
        ForkedStamps x = three();
        Check.due("all are the same", x.count(5), 0);
        x.event(1);
        Check.due("1 is behind the others", x.count(5), 1);
        x.event(2);
        Check.due("1 and 2 clash", x.count(5), ForkedStamps.NONE);
        x.send(1);
        x.receive(2, 0);
        Check.due("2 knows more than all", x.count(5), 2);
        x.fork(2);
        Check.due("2 and 3 are the same", x.count(5), 2);
        x.gather(1, 0);
        x.event(0);
        Check.due("0 clashes with 2 and 3", x.count(5), ForkedStamps.NONE);
        x.gather(2, 0);
        Check.due("0 knows more than 3", x.count(5), 0);
    }

    private static void whose() {
        ForkedStamps x = three();
        Check.due("whose(0)", x.whose(0), ForkedStamps.NO_SUCH);
        x.event(2);
        x.event(0);
        x.send(2);
        x.receive(1, 0);
        x.gather(2, 1);
        x.fork(1);
        Check.due("whose(0), who is another one now", x.whose(0), 2);
        Check.due("whose(1)", x.whose(1), 0);
        Check.due("whose(2)", x.whose(2), 1);
        Check.due("whose(3)", x.whose(3), ForkedStamps.NO_SUCH);
        Check.due("whose(-1)", x.whose(-1), ForkedStamps.NO_SUCH);
        Check.due("whose(120)", x.whose(120), ForkedStamps.NO_SUCH);
        Check.due("whose(MIN)", x.whose(Integer.MIN_VALUE), ForkedStamps.NO_SUCH);
        for (int event = 3; event < 120; event++) {
            x.event(event % 2);
        }
        Check.due("whose(119)", x.whose(119), 1);
        Check.due("whose(118)", x.whose(118), 0);
    }
}
