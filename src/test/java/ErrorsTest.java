/** A call that returns an error, and one that only looks, changes nothing; no argument makes a call throw. */
public final class ErrorsTest {
    private static final int[] ODD = {Integer.MIN_VALUE, -120, -16, -8, -7, -6, -5, -2, -1, 0, 1, 2, 3, 4, 5, 6, 7, 8, 9, 15, 16, 17, 63,
        64, 119, 120, 121, 128, 250, 255, 256, 65535, 1 << 30, Integer.MAX_VALUE - 1, Integer.MAX_VALUE};
    private static final long[] BAD_TEXTS = {0, 32, 127, 255, 0x3100, 0x310031, -1, Long.MIN_VALUE, Long.MAX_VALUE, 0x3131313131313100L};

    public static void main(String[] args) {
        ForkedStamps[] objects = {new ForkedStamps(), talking(), full()};
        for (ForkedStamps x : objects) {
            errorsOfChanges(x);
            errorsOfTextsAndSlots(x);
            looks(x);
        }
        errorsBehindTheLimits(objects[2]);
        errorOfOneCell();
        Check.end();
    }

    private static ForkedStamps talking() {
        ForkedStamps x = new ForkedStamps();
        x.fork(0);
        x.fork(1);
        x.event(0);
        x.event(2);
        x.send(2);
        x.receive(1, 0);
        x.gather(0, 2);
        Check.write(x, "(1,(0,2)");
        x.save(0);
        return x;
    }

    private static ForkedStamps full() {
        ForkedStamps x = new ForkedStamps();
        for (int helper : new int[] {0, 0, 0, 0, 1, 2, 3}) {
            x.fork(helper);
        }
        for (int event = 0; event < 112; event++) {
            x.event(event * 5 % 8);
        }
        for (int message = 0; message < 8; message++) {
            x.send(message);
        }
        for (int message = 0; message < 8; message++) {
            x.receive((message + 3) % 8, message);
        }
        Check.write(x, "((((1,2),(3,4)),((5,6),(7,8))),(((9,10),(11,12)),((13,14),15)))");
        Check.write(x, ")");
        x.save(1);
        Check.due("full: helpers", x.count(0), 255);
        Check.due("full: messages", x.count(1), 8);
        Check.due("full: events", x.count(2), 120);
        Check.due("full: the pad", x.count(6), 64);
        Check.due("full: the history", x.count(7), 6);
        return x;
    }

    private static boolean isHelper(ForkedStamps x, int number) {
        return number >= 0 && number < 8 && (x.count(0) >> number & 1) == 1;
    }

    private static boolean isMessage(ForkedStamps x, int number) {
        return number >= 0 && number < x.count(1);
    }

    private static void errorsOfChanges(ForkedStamps x) {
        String before = Check.allOf(x);
        for (int helper : ODD) {
            if (!isHelper(x, helper)) {
                Check.due("fork(" + helper + ")", x.fork(helper), ForkedStamps.NO_SUCH);
                Check.due("event(" + helper + ")", x.event(helper), ForkedStamps.NO_SUCH);
                Check.due("send(" + helper + ")", x.send(helper), ForkedStamps.NO_SUCH);
            }
            if (!isMessage(x, helper)) {
                Check.due("drop(" + helper + ")", x.drop(helper), ForkedStamps.NO_SUCH);
            }
            for (int other : ODD) {
                if (!isHelper(x, helper) || !isHelper(x, other)) {
                    Check.due("gather(" + helper + ", " + other + ")", x.gather(helper, other), ForkedStamps.NO_SUCH);
                } else if (helper == other) {
                    Check.due("gather(" + helper + ", " + other + ")", x.gather(helper, other), ForkedStamps.BAD_VALUE);
                }
                if (!isHelper(x, helper) || !isMessage(x, other)) {
                    Check.due("receive(" + helper + ", " + other + ")", x.receive(helper, other), ForkedStamps.NO_SUCH);
                }
            }
        }
        Check.same("behind errors of changes", Check.allOf(x), before);
    }

    private static void errorsOfTextsAndSlots(ForkedStamps x) {
        String before = Check.allOf(x);
        for (long characters : BAD_TEXTS) {
            Check.due("put(" + characters + ")", x.put(characters), ForkedStamps.BAD_VALUE);
        }
        for (int slot : ODD) {
            if (slot < 0 || slot > 1) {
                Check.due("save(" + slot + ")", x.save(slot), ForkedStamps.BAD_VALUE);
                Check.due("restore(" + slot + ")", x.restore(slot), ForkedStamps.BAD_VALUE);
            }
        }
        Check.same("behind errors of texts and slots", Check.allOf(x), before);
    }

    private static void errorsBehindTheLimits(ForkedStamps x) {
        String before = Check.allOf(x);
        for (int helper = 0; helper < 8; helper++) {
            Check.due("fork(" + helper + ")", x.fork(helper), ForkedStamps.TOO_MANY);
            Check.due("event(" + helper + ")", x.event(helper), ForkedStamps.TOO_MANY);
            Check.due("send(" + helper + ")", x.send(helper), ForkedStamps.TOO_MANY);
            Check.due("receive(" + helper + ", 7)", x.receive(helper, 7), ForkedStamps.TOO_MANY);
        }
        Check.due("put(49)", x.put(49), ForkedStamps.TOO_MANY);
        Check.due("restore(0)", x.restore(0), ForkedStamps.NOT_POSSIBLE);
        Check.same("behind the limits", Check.allOf(x), before);
    }

    private static void errorOfOneCell() {
        ForkedStamps x = new ForkedStamps();
        for (int joining = 1; joining <= 4; joining++) {
            Check.due("fork(0)", x.fork(0), joining);
        }
        String before = Check.allOf(x);
        Check.due("a share of one cell", x.fork(0), ForkedStamps.NOT_POSSIBLE);
        Check.same("behind a share of one cell", Check.allOf(x), before);
    }

    private static void looks(ForkedStamps x) {
        String before = Check.allOf(x);
        for (int one : ODD) {
            x.count(one);
            x.whose(one);
            x.orderToPad(one);
            x.laggard(one);
            x.fault();
            for (int two : ODD) {
                x.of(one, two);
                x.ofMessage(one, two);
                x.printed(one, two);
                for (int three : ODD) {
                    x.height(one, two, three);
                    x.knows(one, two, three);
                    x.ifReceive(one, two, three);
                    x.order(one, two, 0, three);
                    x.order(one, two, three, 0);
                    x.more(0, one, two, three);
                    x.more(one, two, 1, three);
                }
            }
        }
        Check.same("behind looks", Check.allOf(x), before);
    }
}
