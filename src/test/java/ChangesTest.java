/** Promises 1 to 7: a new object, and the calls that change it. */
public final class ChangesTest {
    public static void main(String[] args) {
        newObject();
        forkSharesCells();
        forkTakesTheLowestFreeNumber();
        forkCopiesStampAndKnowledge();
        forkErrors();
        gatherTakesOver();
        gatherErrors();
        eventRaisesOwnCells();
        eventLevelsBeforeItRises();
        eventErrors();
        sendKeepsWhatWas();
        sendErrors();
        receiveTakesOverAndHappens();
        receiveErrors();
        dropMovesUp();
        dropErrors();
        Check.end();
    }

    private static void newObject() {
        ForkedStamps x = new ForkedStamps();
        Check.same("a new object", Check.stateOf(x),
            "helpers 1; 0: 65535 / 0 0 0 0 0 0 0 0 0 0 0 0 0 0 0 0 / []; messages 0; events");
        for (int what = 0; what < 8; what++) {
            Check.due("new: count(" + what + ")", x.count(what), what == 0 ? 1 : 0);
        }
        Check.due("new: undo()", x.undo(), ForkedStamps.NOT_POSSIBLE);
        Check.due("new: restore(0)", x.restore(0), ForkedStamps.NOT_POSSIBLE);
        Check.due("new: restore(1)", x.restore(1), ForkedStamps.NOT_POSSIBLE);
        Check.due("new: fault()", x.fault(), 0);
        ForkedStamps other = new ForkedStamps();
        other.event(0);
        other.put(49);
        Check.due("objects share nothing: count(2)", x.count(2), 0);
        Check.due("objects share nothing: count(6)", x.count(6), 0);
    }

    private static void forkSharesCells() {
        ForkedStamps x = new ForkedStamps();
        Check.due("fork(0) of 16", x.fork(0), 1);
        Check.due("of(0, 0)", x.of(0, 0), 0x00FF);
        Check.due("of(1, 0)", x.of(1, 0), 0xFF00);
        Check.due("fork(1) of 8", x.fork(1), 2);
        Check.due("gather(2, 0)", x.gather(2, 0), 12);
        // 0 to 7 and 12 to 15 are not in one row.
        Check.due("fork(0) of 12", x.fork(0), 2);
        Check.due("of(0, 0)", x.of(0, 0), 0x003F);
        Check.due("of(2, 0)", x.of(2, 0), 0xF0C0);
        Check.due("fork(0) of 6", x.fork(0), 3);
        Check.due("of(0, 0)", x.of(0, 0), 0x0007);
        Check.due("of(3, 0)", x.of(3, 0), 0x0038);
        Check.due("fork(0) of 3", x.fork(0), 4);
        Check.due("of(0, 0)", x.of(0, 0), 0x0003);
        Check.due("of(4, 0)", x.of(4, 0), 0x0004);
        Check.due("gather(3, 4)", x.gather(3, 4), 4);
        Check.due("gather(0, 4)", x.gather(0, 4), 6);
        Check.due("gather(1, 4)", x.gather(1, 4), 10);
        Check.due("fork(4) of 10", x.fork(4), 0);
        Check.due("of(4, 0)", x.of(4, 0), 0x001F);
        Check.due("of(0, 0)", x.of(0, 0), 0x0F20);
        Check.due("fork(0) of 5", x.fork(0), 1);
        Check.due("of(0, 0)", x.of(0, 0), 0x0320);
        Check.due("of(1, 0)", x.of(1, 0), 0x0C00);
    }

    private static void forkTakesTheLowestFreeNumber() {
        ForkedStamps x = new ForkedStamps();
        for (int joining = 1; joining < 8; joining++) {
            Check.due("fork to " + joining, x.fork((joining - 1) / 2), joining);
        }
        Check.due("count(0)", x.count(0), 255);
        x.gather(6, 7);
        x.gather(2, 7);
        x.gather(0, 7);
        Check.due("count(0)", x.count(0), 0b10111010);
        Check.due("the lowest one", x.fork(7), 0);
        Check.due("the next one", x.fork(7), 2);
        Check.due("the last one", x.fork(0), 6);
        Check.due("no number is left", x.fork(7), ForkedStamps.TOO_MANY);
    }

    private static void forkCopiesStampAndKnowledge() {
        ForkedStamps x = new ForkedStamps();
        x.event(0);
        x.fork(0);
        x.event(1);
        x.event(1);
        x.fork(1);
        Check.same("the heights of 2", Check.heightsOf(x, 0, 2), "1 1 1 1 1 1 1 1 3 3 3 3 3 3 3 3");
        Check.same("known by 2", Check.knownBy(x, 0, 2), "[0, 1, 2]");
        x.event(2);
        Check.same("the heights of 1", Check.heightsOf(x, 0, 1), "1 1 1 1 1 1 1 1 3 3 3 3 3 3 3 3");
        Check.same("known by 1", Check.knownBy(x, 0, 1), "[0, 1, 2]");
        Check.same("the heights of 0", Check.heightsOf(x, 0, 0), "1 1 1 1 1 1 1 1 1 1 1 1 1 1 1 1");
        Check.due("count(7)", x.count(7), 6);
    }

    private static void forkErrors() {
        ForkedStamps x = new ForkedStamps();
        Check.due("fork(-1)", x.fork(-1), ForkedStamps.NO_SUCH);
        Check.due("fork(1)", x.fork(1), ForkedStamps.NO_SUCH);
        Check.due("fork(8)", x.fork(8), ForkedStamps.NO_SUCH);
        Check.due("fork(MIN)", x.fork(Integer.MIN_VALUE), ForkedStamps.NO_SUCH);
        Check.due("fork(MAX)", x.fork(Integer.MAX_VALUE), ForkedStamps.NO_SUCH);
        for (int i = 0; i < 4; i++) {
            x.fork(0);
        }
        Check.due("a share of one cell", x.fork(0), ForkedStamps.NOT_POSSIBLE);
        Check.due("a share of one cell, the newer one", x.fork(4), ForkedStamps.NOT_POSSIBLE);
        x.fork(1);
        x.fork(1);
        x.fork(1);
        Check.due("TOO_MANY comes before NOT_POSSIBLE", x.fork(0), ForkedStamps.TOO_MANY);
        Check.due("TOO_MANY", x.fork(2), ForkedStamps.TOO_MANY);
        Check.due("NO_SUCH comes before TOO_MANY", x.fork(8), ForkedStamps.NO_SUCH);
    }

    private static void gatherTakesOver() {
        ForkedStamps x = new ForkedStamps();
        x.event(0);
        x.fork(0);
        x.event(1);
        x.event(0);
        x.event(0);
        Check.due("gather(0, 1)", x.gather(0, 1), 16);
        Check.due("count(0)", x.count(0), 2);
        Check.due("of(0, 0)", x.of(0, 0), ForkedStamps.NO_SUCH);
        Check.same("the heights of 1", Check.heightsOf(x, 0, 1), "3 3 3 3 3 3 3 3 2 2 2 2 2 2 2 2");
        Check.same("known by 1", Check.knownBy(x, 0, 1), "[0, 1, 2, 3]");
        Check.due("no event by it", x.count(2), 4);
        Check.due("count(7)", x.count(7), 6);

        x = new ForkedStamps();
        x.fork(0);
        x.fork(1);
        x.event(2);
        x.send(2);
        Check.due("gather(2, 0)", x.gather(2, 0), 12);
        Check.due("of(0, 0)", x.of(0, 0), 0xF0FF);
        Check.due("the message stays", x.ofMessage(0, 0), 2);
        Check.due("whose event it was", x.whose(0), 2);
        Check.due("gather(1, 0)", x.gather(1, 0), 16);
    }

    private static void gatherErrors() {
        ForkedStamps x = new ForkedStamps();
        Check.due("gather(0, 0)", x.gather(0, 0), ForkedStamps.BAD_VALUE);
        Check.due("NO_SUCH comes before BAD_VALUE", x.gather(1, 1), ForkedStamps.NO_SUCH);
        Check.due("gather(0, 1)", x.gather(0, 1), ForkedStamps.NO_SUCH);
        Check.due("gather(1, 0)", x.gather(1, 0), ForkedStamps.NO_SUCH);
        Check.due("gather(0, -1)", x.gather(0, -1), ForkedStamps.NO_SUCH);
        Check.due("gather(8, 0)", x.gather(8, 0), ForkedStamps.NO_SUCH);
        Check.due("gather(MIN, MAX)", x.gather(Integer.MIN_VALUE, Integer.MAX_VALUE), ForkedStamps.NO_SUCH);
    }

    private static void eventRaisesOwnCells() {
        ForkedStamps x = new ForkedStamps();
        Check.due("the first event", x.event(0), 0);
        Check.same("all cells", Check.heightsOf(x, 0, 0), "1 1 1 1 1 1 1 1 1 1 1 1 1 1 1 1");
        x.fork(0);
        x.fork(0);
        Check.due("the second event", x.event(2), 1);
        Check.same("own cells alone", Check.heightsOf(x, 0, 2), "1 1 1 1 2 2 2 2 1 1 1 1 1 1 1 1");
        Check.same("known by 2", Check.knownBy(x, 0, 2), "[0, 1]");
        Check.same("known by 0", Check.knownBy(x, 0, 0), "[0]");
        Check.due("whose(1)", x.whose(1), 2);
    }

    private static void eventLevelsBeforeItRises() {
        ForkedStamps x = new ForkedStamps();
        x.fork(0);
        x.event(0);
        x.event(0);
        x.event(1);
        x.gather(1, 0);
        Check.same("before", Check.heightsOf(x, 0, 0), "2 2 2 2 2 2 2 2 1 1 1 1 1 1 1 1");
        x.event(0);
        Check.same("some own cell had less", Check.heightsOf(x, 0, 0), "2 2 2 2 2 2 2 2 2 2 2 2 2 2 2 2");
        x.event(0);
        Check.same("no own cell had less", Check.heightsOf(x, 0, 0), "3 3 3 3 3 3 3 3 3 3 3 3 3 3 3 3");

        // 0 has the cell 0, 4 has the cell 1.
        x = new ForkedStamps();
        for (int i = 0; i < 4; i++) {
            x.fork(0);
        }
        x.event(4);
        x.gather(4, 0);
        x.event(0);
        Check.same("the first cell had less", Check.heightsOf(x, 0, 0), "1 1 0 0 0 0 0 0 0 0 0 0 0 0 0 0");
        x.fork(0);
        x.event(0);
        Check.due("the greatest height is in the first cell", x.of(0, 2), 2);
        x.gather(4, 0);
        x.event(0);
        Check.same("the last cell had less", Check.heightsOf(x, 0, 0), "2 2 0 0 0 0 0 0 0 0 0 0 0 0 0 0");

        // A greater height in another one's cell does not count.
        x = new ForkedStamps();
        x.fork(0);
        x.event(1);
        x.event(1);
        x.event(1);
        x.send(1);
        x.receive(0, 0);
        Check.same("own cells rise by one", Check.heightsOf(x, 0, 0), "1 1 1 1 1 1 1 1 3 3 3 3 3 3 3 3");
    }

    private static void eventErrors() {
        ForkedStamps x = new ForkedStamps();
        Check.due("event(-1)", x.event(-1), ForkedStamps.NO_SUCH);
        Check.due("event(1)", x.event(1), ForkedStamps.NO_SUCH);
        Check.due("event(8)", x.event(8), ForkedStamps.NO_SUCH);
        for (int event = 0; event < 120; event++) {
            Check.due("event " + event, x.event(0), event);
        }
        Check.due("121 events", x.event(0), ForkedStamps.TOO_MANY);
        Check.due("NO_SUCH comes before TOO_MANY", x.event(1), ForkedStamps.NO_SUCH);
        Check.due("count(2)", x.count(2), 120);
        Check.due("of(0, 2)", x.of(0, 2), 120);
        Check.due("of(0, 4)", x.of(0, 4), 120);
        Check.due("undo()", x.undo(), 5);
        Check.due("the 120th one again", x.event(0), 119);
    }

    private static void sendKeepsWhatWas() {
        ForkedStamps x = new ForkedStamps();
        x.event(0);
        x.fork(0);
        x.event(1);
        Check.due("send(1)", x.send(1), 0);
        x.event(1);
        Check.due("send(0)", x.send(0), 1);
        Check.due("count(1)", x.count(1), 2);
        Check.due("ofMessage(0, 0)", x.ofMessage(0, 0), 1);
        Check.due("ofMessage(1, 0)", x.ofMessage(1, 0), 0);
        Check.same("the heights of message 0", Check.heightsOf(x, 1, 0), "1 1 1 1 1 1 1 1 2 2 2 2 2 2 2 2");
        Check.same("known to message 0", Check.knownBy(x, 1, 0), "[0, 1]");
        Check.same("the heights of message 1", Check.heightsOf(x, 1, 1), "1 1 1 1 1 1 1 1 1 1 1 1 1 1 1 1");
        Check.same("known to message 1", Check.knownBy(x, 1, 1), "[0]");
        Check.due("sending is no event", x.count(2), 3);
    }

    private static void sendErrors() {
        ForkedStamps x = new ForkedStamps();
        Check.due("send(-1)", x.send(-1), ForkedStamps.NO_SUCH);
        Check.due("send(1)", x.send(1), ForkedStamps.NO_SUCH);
        Check.due("send(8)", x.send(8), ForkedStamps.NO_SUCH);
        for (int message = 0; message < 8; message++) {
            Check.due("message " + message, x.send(0), message);
        }
        Check.due("9 messages", x.send(0), ForkedStamps.TOO_MANY);
        Check.due("NO_SUCH comes before TOO_MANY", x.send(1), ForkedStamps.NO_SUCH);
        Check.due("drop(7)", x.drop(7), 7);
        Check.due("the 8th one again", x.send(0), 7);
    }

    private static void receiveTakesOverAndHappens() {
        ForkedStamps x = new ForkedStamps();
        x.fork(0);
        x.event(0);
        x.event(0);
        x.send(0);
        x.event(1);
        Check.due("receive(1, 0)", x.receive(1, 0), 3);
        Check.same("the heights of 1", Check.heightsOf(x, 0, 1), "2 2 2 2 2 2 2 2 2 2 2 2 2 2 2 2");
        Check.same("known by 1", Check.knownBy(x, 0, 1), "[0, 1, 2, 3]");
        Check.due("whose(3)", x.whose(3), 1);
        Check.due("the message stays", x.count(1), 1);
        Check.same("as it was", Check.knownBy(x, 1, 0), "[0, 1]");
        Check.due("receive(1, 0) again", x.receive(1, 0), 4);
        Check.same("the heights of 1", Check.heightsOf(x, 0, 1), "2 2 2 2 2 2 2 2 3 3 3 3 3 3 3 3");
        Check.due("receive(0, 0), the own one", x.receive(0, 0), 5);
        Check.same("the heights of 0", Check.heightsOf(x, 0, 0), "3 3 3 3 3 3 3 3 0 0 0 0 0 0 0 0");
        // By the message own cells come to different heights: the event levels them.
        x = new ForkedStamps();
        x.fork(0);
        x.event(1);
        x.event(1);
        x.send(1);
        x.save(0);
        x.undo();
        x.undo();
        x.undo();
        x.restore(0);
        x.gather(1, 0);
        Check.due("receive(0, 0) levels", x.receive(0, 0), 2);
        Check.same("the heights of 0", Check.heightsOf(x, 0, 0), "2 2 2 2 2 2 2 2 2 2 2 2 2 2 2 2");
    }

    private static void receiveErrors() {
        ForkedStamps x = new ForkedStamps();
        Check.due("no message", x.receive(0, 0), ForkedStamps.NO_SUCH);
        x.send(0);
        Check.due("receive(1, 0)", x.receive(1, 0), ForkedStamps.NO_SUCH);
        Check.due("receive(-1, 0)", x.receive(-1, 0), ForkedStamps.NO_SUCH);
        Check.due("receive(8, 0)", x.receive(8, 0), ForkedStamps.NO_SUCH);
        Check.due("receive(0, 1)", x.receive(0, 1), ForkedStamps.NO_SUCH);
        Check.due("receive(0, -1)", x.receive(0, -1), ForkedStamps.NO_SUCH);
        Check.due("receive(0, 8)", x.receive(0, 8), ForkedStamps.NO_SUCH);
        for (int i = 0; i < 119; i++) {
            x.event(0);
        }
        Check.due("the 120th event", x.receive(0, 0), 119);
        Check.due("TOO_MANY", x.receive(0, 0), ForkedStamps.TOO_MANY);
        Check.due("NO_SUCH comes before TOO_MANY", x.receive(1, 0), ForkedStamps.NO_SUCH);
        Check.due("NO_SUCH comes before TOO_MANY", x.receive(0, 1), ForkedStamps.NO_SUCH);
    }

    private static void dropMovesUp() {
        ForkedStamps x = new ForkedStamps();
        x.fork(0);
        for (int i = 0; i < 4; i++) {
            x.event(i % 2);
            x.send(i % 2);
        }
        Check.due("drop(1)", x.drop(1), 3);
        Check.same("message 0", Check.knownBy(x, 1, 0), "[0]");
        Check.same("message 1", Check.knownBy(x, 1, 1), "[0, 2]");
        Check.same("message 2", Check.knownBy(x, 1, 2), "[1, 3]");
        Check.due("ofMessage(1, 0)", x.ofMessage(1, 0), 0);
        Check.due("ofMessage(2, 0)", x.ofMessage(2, 0), 1);
        Check.same("the heights of message 2", Check.heightsOf(x, 1, 2), "0 0 0 0 0 0 0 0 2 2 2 2 2 2 2 2");
        Check.due("ofMessage(3, 0)", x.ofMessage(3, 0), ForkedStamps.NO_SUCH);
        Check.due("a new one is behind", x.send(1), 3);
        Check.due("drop(0)", x.drop(0), 3);
        Check.due("drop(2)", x.drop(2), 2);
        Check.same("message 0", Check.knownBy(x, 1, 0), "[0, 2]");
        Check.due("drop(0)", x.drop(0), 1);
        Check.due("drop(0)", x.drop(0), 0);
        Check.due("undo()", x.undo(), 5);
        Check.due("it is back", x.count(1), 1);
    }

    private static void dropErrors() {
        ForkedStamps x = new ForkedStamps();
        Check.due("drop(0)", x.drop(0), ForkedStamps.NO_SUCH);
        x.send(0);
        Check.due("drop(1)", x.drop(1), ForkedStamps.NO_SUCH);
        Check.due("drop(-1)", x.drop(-1), ForkedStamps.NO_SUCH);
        Check.due("drop(8)", x.drop(8), ForkedStamps.NO_SUCH);
        Check.due("drop(0)", x.drop(0), 0);
        Check.due("drop(0) again", x.drop(0), ForkedStamps.NO_SUCH);
    }
}
