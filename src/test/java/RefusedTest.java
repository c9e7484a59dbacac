import java.util.function.Supplier;

/**
 * "A call that returns an error changes nothing": each error of each method, on an object and its twin, who is spared the call.
 * "It names its errors in the order in which they are checked, and the first one that applies is returned."
 */
public final class RefusedTest {
    private interface Call {
        int on(ForkedStamps x);
    }

    private static final int LEAST = Integer.MIN_VALUE, GREATEST = Integer.MAX_VALUE;
    // 0 to 1 are there in few(), 0 to 7 in full().
    private static final int[] NO_HELPER_OF_FEW = {LEAST, -6, -1, 2, 7, 8, 16, GREATEST}, NO_HELPER_OF_FULL = {LEAST, -1, 8, 9, GREATEST};
    private static final int[] NO_MESSAGE_OF_FEW = {LEAST, -1, 2, 7, 8, GREATEST}, NO_MESSAGE_OF_FULL = {LEAST, -1, 8, 9, GREATEST};
    private static final int[] NO_SLOT = {LEAST, -1, 2, 3, GREATEST};

    public static void main(String[] args) {
        noSuchHelper(Scenes::few, NO_HELPER_OF_FEW);
        noSuchHelper(Scenes::full, NO_HELPER_OF_FULL);
        noSuchMessage(Scenes::few, NO_MESSAGE_OF_FEW);
        noSuchMessage(Scenes::full, NO_MESSAGE_OF_FULL);
        forkRefused();
        gatherRefused();
        limitsRefused();
        putRefused();
        slotsRefused();
        undoRefused();
        looksRefused(Scenes::few, 2, 2);
        looksRefused(Scenes::full, 8, 8);
        Check.end();
    }

    private static void refused(String what, Supplier<ForkedStamps> scene, Call call, int error) {
        ForkedStamps asked = scene.get();
        ForkedStamps spared = scene.get();
        Check.due(what, call.on(asked), error);
        Check.same("behind " + what, Scenes.digestOf(asked), Scenes.digestOf(spared));
        Check.due("undo() behind " + what, asked.undo(), spared.undo());
        Check.same("behind undo() behind " + what, Scenes.digestOf(asked), Scenes.digestOf(spared));
        for (int slot = 0; slot < 2; slot++) {
            Check.due("restore(" + slot + ") behind " + what, asked.restore(slot), spared.restore(slot));
        }
        Check.same("behind restore() behind " + what, Scenes.digestOf(asked), Scenes.digestOf(spared));
    }

    private static void noSuchHelper(Supplier<ForkedStamps> scene, int[] none) {
        for (int helper : none) {
            refused("fork(" + helper + ")", scene, x -> x.fork(helper), ForkedStamps.NO_SUCH);
            refused("gather(" + helper + ", 0)", scene, x -> x.gather(helper, 0), ForkedStamps.NO_SUCH);
            refused("gather(0, " + helper + ")", scene, x -> x.gather(0, helper), ForkedStamps.NO_SUCH);
            refused("gather(" + helper + ", itself)", scene, x -> x.gather(helper, helper), ForkedStamps.NO_SUCH);
            refused("event(" + helper + ")", scene, x -> x.event(helper), ForkedStamps.NO_SUCH);
            refused("send(" + helper + ")", scene, x -> x.send(helper), ForkedStamps.NO_SUCH);
            refused("receive(" + helper + ", 0)", scene, x -> x.receive(helper, 0), ForkedStamps.NO_SUCH);
            refused("receive(" + helper + ", -1)", scene, x -> x.receive(helper, -1), ForkedStamps.NO_SUCH);
        }
    }

    private static void noSuchMessage(Supplier<ForkedStamps> scene, int[] none) {
        for (int message : none) {
            refused("receive(0, " + message + ")", scene, x -> x.receive(0, message), ForkedStamps.NO_SUCH);
            refused("drop(" + message + ")", scene, x -> x.drop(message), ForkedStamps.NO_SUCH);
        }
    }

    private static void forkRefused() {
        refused("fork(0) of one cell", Scenes::halvedFourTimes, x -> x.fork(0), ForkedStamps.NOT_POSSIBLE);
        refused("fork(4) of one cell", Scenes::halvedFourTimes, x -> x.fork(4), ForkedStamps.NOT_POSSIBLE);
        for (int helper = 0; helper < 8; helper++) {
            int forking = helper;
            refused("fork(" + helper + ") of 8", Scenes::full, x -> x.fork(forking), ForkedStamps.TOO_MANY);
        }
        refused("fork(0) of 8 and of one cell", RefusedTest::eightOneOfOneCell, x -> x.fork(0), ForkedStamps.TOO_MANY);
        refused("fork(8) of 8", RefusedTest::eightOneOfOneCell, x -> x.fork(8), ForkedStamps.NO_SUCH);
    }

    private static ForkedStamps eightOneOfOneCell() {
        ForkedStamps x = Scenes.halvedFourTimes();
        x.fork(1);
        x.fork(1);
        x.fork(1);
        return x;
    }

    private static void gatherRefused() {
        for (int helper = 0; helper < 8; helper++) {
            int gathered = helper;
            refused("gather(" + helper + ", itself)", Scenes::full, x -> x.gather(gathered, gathered), ForkedStamps.BAD_VALUE);
        }
        refused("gather(0, 0), alone", ForkedStamps::new, x -> x.gather(0, 0), ForkedStamps.BAD_VALUE);
        refused("gather(1, 1), none", ForkedStamps::new, x -> x.gather(1, 1), ForkedStamps.NO_SUCH);
    }

    private static void limitsRefused() {
        for (int number = 0; number < 8; number++) {
            int helper = number;
            int message = 7 - number;
            refused("event(" + helper + ") behind 120", Scenes::full, x -> x.event(helper), ForkedStamps.TOO_MANY);
            refused("send(" + helper + ") behind 8", Scenes::full, x -> x.send(helper), ForkedStamps.TOO_MANY);
            refused("receive(" + helper + ", " + message + ") behind 120", Scenes::full, x -> x.receive(helper, message),
                ForkedStamps.TOO_MANY);
        }
        refused("drop(0) of none", ForkedStamps::new, x -> x.drop(0), ForkedStamps.NO_SUCH);
        refused("receive(0, 0) of none", ForkedStamps::new, x -> x.receive(0, 0), ForkedStamps.NO_SUCH);
        refused("receive(0, 0) of none behind 120 events", () -> Scenes.events(120), x -> x.receive(0, 0), ForkedStamps.NO_SUCH);
    }

    private static void putRefused() {
        long[] bad = {0, 32, 127, 255, 0x3100, 0x310031, 0x3131313131313120L, 0x7F31313131313131L, 0x3100000000000031L, Long.MIN_VALUE, -1};
        for (long characters : bad) {
            refused("put(" + characters + ")", Scenes::few, x -> x.put(characters), ForkedStamps.BAD_VALUE);
            refused("put(" + characters + ") to 64", Scenes::full, x -> x.put(characters), ForkedStamps.BAD_VALUE);
        }
        refused("put(41) to 64", Scenes::full, x -> x.put(41), ForkedStamps.TOO_MANY);
        Check.due("the length before eight more", fiftySeven().count(6), 57);
        refused("put of 8 characters to 57", RefusedTest::fiftySeven, x -> x.put(Check.code("7,18))))")), ForkedStamps.TOO_MANY);
    }

    private static ForkedStamps fiftySeven() {
        ForkedStamps x = new ForkedStamps();
        Scenes.write(x, "((((1,2),(3,4)),((5,6),(7,8))),(((1,2),(3,4)),((15,16),(1");
        return x;
    }

    private static void slotsRefused() {
        for (int slot : NO_SLOT) {
            refused("save(" + slot + ")", Scenes::few, x -> x.save(slot), ForkedStamps.BAD_VALUE);
            refused("restore(" + slot + ")", Scenes::few, x -> x.restore(slot), ForkedStamps.BAD_VALUE);
            refused("save(" + slot + "), nothing saved", Scenes::eightHelpers, x -> x.save(slot), ForkedStamps.BAD_VALUE);
            refused("restore(" + slot + "), nothing saved", Scenes::eightHelpers, x -> x.restore(slot), ForkedStamps.BAD_VALUE);
        }
        refused("restore(1), 0 alone was saved", Scenes::few, x -> x.restore(1), ForkedStamps.NOT_POSSIBLE);
        refused("restore(0), 1 alone was saved", Scenes::full, x -> x.restore(0), ForkedStamps.NOT_POSSIBLE);
        refused("restore(0), nothing saved", ForkedStamps::new, x -> x.restore(0), ForkedStamps.NOT_POSSIBLE);
    }

    private static void undoRefused() {
        refused("undo() of nothing", ForkedStamps::new, ForkedStamps::undo, ForkedStamps.NOT_POSSIBLE);
        refused("undo() of nothing more", RefusedTest::allUndone, ForkedStamps::undo, ForkedStamps.NOT_POSSIBLE);
    }

    private static ForkedStamps allUndone() {
        ForkedStamps x = Scenes.eightHelpers();
        x.save(0);
        for (int i = 0; i < 6; i++) {
            x.undo();
        }
        return x;
    }

    private static void looksRefused(Supplier<ForkedStamps> scene, int helpers, int messages) {
        refused("of", scene, x -> x.of(helpers, 8), ForkedStamps.NO_SUCH);
        refused("of", scene, x -> x.of(0, 8), ForkedStamps.BAD_VALUE);
        refused("ofMessage", scene, x -> x.ofMessage(messages, 4), ForkedStamps.NO_SUCH);
        refused("ofMessage", scene, x -> x.ofMessage(0, 4), ForkedStamps.BAD_VALUE);
        refused("height", scene, x -> x.height(2, helpers, 16), ForkedStamps.BAD_VALUE);
        refused("height", scene, x -> x.height(0, 0, 16), ForkedStamps.NO_SUCH);
        refused("knows", scene, x -> x.knows(2, helpers, 120), ForkedStamps.BAD_VALUE);
        refused("knows", scene, x -> x.knows(0, 0, 120), ForkedStamps.NO_SUCH);
        refused("count", scene, x -> x.count(8), ForkedStamps.BAD_VALUE);
        refused("whose", scene, x -> x.whose(120), ForkedStamps.NO_SUCH);
        refused("order", scene, x -> x.order(2, helpers, 0, 0), ForkedStamps.BAD_VALUE);
        refused("order", scene, x -> x.order(0, helpers, 0, 0), ForkedStamps.NO_SUCH);
        refused("more", scene, x -> x.more(0, 0, 2, helpers), ForkedStamps.BAD_VALUE);
        refused("more", scene, x -> x.more(1, messages, 0, 0), ForkedStamps.NO_SUCH);
        refused("orderToPad", scene, x -> x.orderToPad(helpers), ForkedStamps.NO_SUCH);
        refused("orderToPad", scene, x -> x.orderToPad(0), ForkedStamps.BAD_TEXT);
        refused("printed", scene, x -> x.printed(0, 94), ForkedStamps.NO_SUCH);
        refused("ifReceive", scene, x -> x.ifReceive(0, messages, 3), ForkedStamps.NO_SUCH);
        refused("ifReceive", scene, x -> x.ifReceive(0, 0, 3), ForkedStamps.BAD_VALUE);
        refused("laggard", scene, x -> x.laggard(2), ForkedStamps.BAD_VALUE);
    }
}
