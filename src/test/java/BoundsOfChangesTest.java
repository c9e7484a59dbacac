/** The bounds that promises 1 to 7 and the terms behind them name, each in a test of its own, with the sentence that names it. */
public final class BoundsOfChangesTest {
    public static void main(String[] args) {
        newObject();
        newOnesNumberIsTheLowest();
        forkOfEachSize();
        forkWithoutSuchHelper();
        forkOfEight();
        forkOfOneCell();
        gatherWithoutSuchHelper();
        gatherOfTheSame();
        gatherOfTheLastTwo();
        gatheredIsThereNoMore();
        gatherTakesTheGreaterHeights();
        whatBothKnowStaysKnown();
        eventOfOneCell();
        eventOfLevelCells();
        eventOfOneLessCell();
        eventBesideGreaterCells();
        eventWithoutSuchHelper();
        lastEvent();
        sendWithoutSuchHelper();
        sendOfEight();
        sentAsItWas();
        senderWhoIsGone();
        receiveWithoutSuchOne();
        receiveAsLastEvent();
        receiveNothingNew();
        dropEachPlace();
        dropWithoutSuchMessage();
        dropTheLastOne();
        Check.end();
    }

    // "Creates the helper 0, who has all cells; nothing happened."
    private static void newObject() {
        ForkedStamps x = new ForkedStamps();
        Check.due("the helpers", x.count(0), 1);
        Check.due("the share of 0", x.of(0, 0), 65535);
        Check.due("the cells of 0", x.of(0, 1), 16);
        for (int cell = 0; cell < 16; cell++) {
            Check.due("the height of " + cell, x.height(0, 0, cell), 0);
        }
        for (int what = 1; what < 8; what++) {
            Check.due("count(" + what + ")", x.count(what), 0);
        }
        Check.due("what 0 knows", x.of(0, 4), 0);
        Check.due("the latest event", x.of(0, 5), ForkedStamps.NONE);
        Check.due("the helper 1", x.of(1, 0), ForkedStamps.NO_SUCH);
        Check.due("the message 0", x.ofMessage(0, 0), ForkedStamps.NO_SUCH);
        Check.due("the event 0", x.whose(0), ForkedStamps.NO_SUCH);
        Check.due("undo()", x.undo(), ForkedStamps.NOT_POSSIBLE);
        Check.due("restore(0)", x.restore(0), ForkedStamps.NOT_POSSIBLE);
        Check.due("restore(1)", x.restore(1), ForkedStamps.NOT_POSSIBLE);
        Check.due("wipe()", x.wipe(), 0);
    }

    // "the lowest number that no helper has is a new one"
    private static void newOnesNumberIsTheLowest() {
        for (int gone = 0; gone < 8; gone++) {
            ForkedStamps x = Scenes.eightHelpers();
            int by = (gone + 3) % 8;
            Check.due("gather(" + gone + ", " + by + ")", x.gather(gone, by), 4);
            Check.due("all but " + gone, x.count(0), 255 - (1 << gone));
            Check.due("the number of " + gone + " is free", x.fork(by), gone);
            Check.due("it has the upper two cells", x.of(gone, 1), 2);
            Check.due("eight again", x.count(0), 255);
        }
        ForkedStamps x = Scenes.eightHelpers();
        x.gather(5, 6);
        x.gather(0, 6);
        x.gather(7, 6);
        Check.due("0 before 5 and 7", x.fork(6), 0);
        Check.due("5 before 7", x.fork(6), 5);
        Check.due("7 at last", x.fork(6), 7);
    }

    // "of the cells of the share, in ascending order, the first half (one more, if they are odd) stays, the others go to the new one"
    private static void forkOfEachSize() {
        // What halvedFourTimes() gives to 0, 3, 2 and 1 has 1, 2, 4 and 8 cells; 4 gathers what the size asks for.
        int[] helperOfBit = {0, 3, 2, 1};
        for (int size = 2; size <= 16; size++) {
            ForkedStamps x = Scenes.halvedFourTimes();
            for (int bit = 0; bit < 4; bit++) {
                if (((size - 1) >> bit & 1) == 1) {
                    x.gather(helperOfBit[bit], 4);
                }
            }
            int share = x.of(4, 0);
            Check.due("the cells, of " + size, x.of(4, 1), size);
            int joined = x.fork(4);
            Check.due("who stays, of " + size, x.of(4, 1), (size + 1) / 2);
            Check.due("who go, of " + size, x.of(joined, 1), size / 2);
            Check.due("both of " + size, x.of(4, 0) | x.of(joined, 0), share);
            Check.same("the ones that stay are the lower ones, of " + size,
                Integer.highestOneBit(x.of(4, 0)) < Integer.lowestOneBit(x.of(joined, 0)), true);
        }
    }

    // "NO_SUCH if there is no such helper"
    private static void forkWithoutSuchHelper() {
        ForkedStamps x = new ForkedStamps();
        for (int helper : new int[] {Integer.MIN_VALUE, -1, 1, 7, 8, 9, 32, 64, Integer.MAX_VALUE}) {
            Check.due("fork(" + helper + ")", x.fork(helper), ForkedStamps.NO_SUCH);
        }
        Check.due("fork(0)", x.fork(0), 1);
        Check.due("the new one forks", x.fork(1), 2);
        x.gather(0, 2);
        Check.due("who is gathered does not", x.fork(0), ForkedStamps.NO_SUCH);
    }

    // "TOO_MANY if there are 8"
    private static void forkOfEight() {
        ForkedStamps x = new ForkedStamps();
        for (int helper : new int[] {0, 0, 1, 0, 1, 2}) {
            x.fork(helper);
        }
        Check.due("there are 7", x.count(0), 127);
        Check.due("the eighth one", x.fork(3), 7);
        for (int helper = 0; helper < 8; helper++) {
            Check.due("a ninth one by " + helper, x.fork(helper), ForkedStamps.TOO_MANY);
        }
        Check.due("NO_SUCH comes before TOO_MANY", x.fork(8), ForkedStamps.NO_SUCH);
        x.gather(7, 3);
        Check.due("the eighth one again", x.fork(3), 7);
        x.undo();
        Check.due("and behind undo()", x.fork(3), 7);
    }

    // "NOT_POSSIBLE if the share has one cell"
    private static void forkOfOneCell() {
        ForkedStamps x = Scenes.halvedFourTimes();
        Check.due("the cells of 0", x.of(0, 1), 1);
        Check.due("the cells of 4", x.of(4, 1), 1);
        Check.due("fork(0)", x.fork(0), ForkedStamps.NOT_POSSIBLE);
        Check.due("fork(4)", x.fork(4), ForkedStamps.NOT_POSSIBLE);
        Check.due("two cells are enough", x.fork(3), 5);
        Check.due("fork(3), of one cell now", x.fork(3), ForkedStamps.NOT_POSSIBLE);
        Check.due("fork(5), of one cell now", x.fork(5), ForkedStamps.NOT_POSSIBLE);
        x.fork(2);
        x.fork(1);
        Check.due("TOO_MANY comes before NOT_POSSIBLE", x.fork(0), ForkedStamps.TOO_MANY);
    }

    // "NO_SUCH if there is no such helper", either one
    private static void gatherWithoutSuchHelper() {
        ForkedStamps x = new ForkedStamps();
        x.fork(0);
        for (int none : new int[] {Integer.MIN_VALUE, -1, 2, 7, 8, 33, Integer.MAX_VALUE}) {
            Check.due("gather(0, " + none + ")", x.gather(0, none), ForkedStamps.NO_SUCH);
            Check.due("gather(" + none + ", 0)", x.gather(none, 0), ForkedStamps.NO_SUCH);
            Check.due("gather(" + none + ", " + none + ")", x.gather(none, none), ForkedStamps.NO_SUCH);
        }
        Check.due("both are there", x.gather(0, 1), 16);
    }

    // "BAD_VALUE if both are the same"
    private static void gatherOfTheSame() {
        ForkedStamps x = Scenes.eightHelpers();
        for (int helper = 0; helper < 8; helper++) {
            Check.due("gather(" + helper + ", itself)", x.gather(helper, helper), ForkedStamps.BAD_VALUE);
        }
        ForkedStamps alone = new ForkedStamps();
        Check.due("alone", alone.gather(0, 0), ForkedStamps.BAD_VALUE);
        Check.due("it is still there", alone.of(0, 1), 16);
    }

    // "Returns how many cells the other one has then"
    private static void gatherOfTheLastTwo() {
        ForkedStamps x = Scenes.halvedFourTimes();
        Check.due("1 and 1", x.gather(0, 4), 2);
        Check.due("and 2", x.gather(3, 4), 4);
        Check.due("and 4", x.gather(2, 4), 8);
        Check.due("and 8", x.gather(1, 4), 16);
        Check.due("4 is alone", x.count(0), 16);
        Check.due("with all cells", x.of(4, 0), 65535);
        Check.due("none is left", x.gather(4, 4), ForkedStamps.BAD_VALUE);
    }

    // "the helper is there no more"
    private static void gatheredIsThereNoMore() {
        ForkedStamps x = new ForkedStamps();
        x.fork(0);
        x.event(0);
        x.send(0);
        x.gather(0, 1);
        Check.due("fork", x.fork(0), ForkedStamps.NO_SUCH);
        Check.due("gather", x.gather(0, 1), ForkedStamps.NO_SUCH);
        Check.due("gather by it", x.gather(1, 0), ForkedStamps.NO_SUCH);
        Check.due("event", x.event(0), ForkedStamps.NO_SUCH);
        Check.due("send", x.send(0), ForkedStamps.NO_SUCH);
        Check.due("receive", x.receive(0, 0), ForkedStamps.NO_SUCH);
        Check.due("of", x.of(0, 0), ForkedStamps.NO_SUCH);
        Check.due("height", x.height(0, 0, 0), ForkedStamps.NO_SUCH);
        Check.due("knows", x.knows(0, 0, 0), ForkedStamps.NO_SUCH);
        Check.due("order", x.order(0, 1, 0, 0), ForkedStamps.NO_SUCH);
        Check.due("more", x.more(0, 0, 0, 1), ForkedStamps.NO_SUCH);
        Check.due("orderToPad", x.orderToPad(0), ForkedStamps.NO_SUCH);
        Check.due("printed", x.printed(0, 0), ForkedStamps.NO_SUCH);
        Check.due("ifReceive", x.ifReceive(0, 0, 0), ForkedStamps.NO_SUCH);
        Check.due("laggard", x.laggard(0), 1);
        Check.due("the helpers", x.count(0), 2);
    }

    // "each height becomes the greater one of the own one and the other one's, and the events that the other one knows become known"
    private static void gatherTakesTheGreaterHeights() {
        for (int gone = 0; gone < 2; gone++) {
            ForkedStamps x = new ForkedStamps();
            x.event(0);
            x.fork(0);
            x.event(0);
            x.event(1);
            x.event(1);
            int by = 1 - gone;
            Check.due("all cells", x.gather(gone, by), 16);
            Check.due("the first cell", x.height(0, by, 0), 2);
            Check.due("the cell 7", x.height(0, by, 7), 2);
            Check.due("the cell 8", x.height(0, by, 8), 3);
            Check.due("the last cell", x.height(0, by, 15), 3);
            Check.due("it knows all", x.of(by, 4), 4);
            Check.due("that is no event", x.count(2), 4);
        }
    }

    // "the events that the other one knows become known": what both know stays known
    private static void whatBothKnowStaysKnown() {
        for (int received = 0; received < 2; received++) {
            ForkedStamps x = Scenes.events(117);
            x.fork(0);
            x.event(0);
            x.event(1);
            x.send(0);
            int events = 119;
            if (received == 1) {
                Check.due("receive(1, 0)", x.receive(1, 0), events);
                events++;
            } else {
                Check.due("gather(0, 1)", x.gather(0, 1), 16);
            }
            Check.due("how many 1 knows", x.of(1, 4), events);
            for (int event = 0; event < events; event++) {
                Check.due("knows(0, 1, " + event + ")", x.knows(0, 1, event), 1);
            }
        }
    }

    // "if some own cell has less, each own cell gets h; otherwise each own cell gets h + 1": of one cell none has less
    private static void eventOfOneCell() {
        ForkedStamps x = Scenes.halvedFourTimes();
        for (int event = 0; event < 3; event++) {
            x.event(4);
            Check.due("the cell of 4", x.height(0, 4, 1), event + 1);
        }
        Check.due("the cell before it", x.height(0, 4, 0), 0);
        Check.due("the cell behind it", x.height(0, 4, 2), 0);
        Check.due("the sum", x.of(4, 3), 3);
    }

    // "otherwise each own cell gets h + 1"
    private static void eventOfLevelCells() {
        ForkedStamps x = new ForkedStamps();
        for (int event = 0; event < 3; event++) {
            Check.due("event " + event, x.event(0), event);
            Check.due("all sixteen cells", x.of(0, 3), 16 * (event + 1));
        }
    }

    // "if some own cell has less, each own cell gets h": one less cell is enough, wherever it is
    private static void eventOfOneLessCell() {
        int gathering = 3;
        for (int cell = 0; cell < 16; cell += 15) {
            ForkedStamps x = new ForkedStamps();
            for (int i = 0; i < 4; i++) {
                x.fork(cell == 0 ? 0 : i);
            }
            int less = cell == 0 ? 0 : 4;
            Check.due("the one cell of " + less, x.of(less, 0), 1 << cell);
            for (int helper = 0; helper < 5; helper++) {
                if (helper != less && helper != gathering) {
                    x.gather(helper, gathering);
                }
            }
            x.event(gathering);
            x.event(gathering);
            Check.due("15 cells have 2", x.of(gathering, 3), 30);
            Check.due("and one more comes", x.gather(less, gathering), 16);
            x.event(gathering);
            Check.due("each one has 2", x.of(gathering, 3), 32);
            Check.due("the cell " + cell, x.height(0, gathering, cell), 2);
            x.event(gathering);
            Check.due("each one has 3", x.of(gathering, 3), 48);
        }
    }

    // "h for the greatest height of the own cells": others' cells do not count
    private static void eventBesideGreaterCells() {
        ForkedStamps x = new ForkedStamps();
        x.fork(0);
        for (int i = 0; i < 5; i++) {
            x.event(0);
        }
        x.send(0);
        x.receive(1, 0);
        Check.due("an other's cell", x.height(0, 1, 0), 5);
        Check.due("an own cell", x.height(0, 1, 8), 1);
        x.event(1);
        Check.due("an other's cell again", x.height(0, 1, 7), 5);
        Check.due("an own cell again", x.height(0, 1, 15), 2);
    }

    private static void eventWithoutSuchHelper() {
        ForkedStamps x = new ForkedStamps();
        for (int helper : new int[] {Integer.MIN_VALUE, -1, 1, 7, 8, 32, Integer.MAX_VALUE}) {
            Check.due("event(" + helper + ")", x.event(helper), ForkedStamps.NO_SUCH);
        }
        Check.due("no event has happened", x.count(2), 0);
        Check.due("the first one has the number", x.event(0), 0);
    }

    // "TOO_MANY if there were 120"
    private static void lastEvent() {
        ForkedStamps x = Scenes.events(119);
        x.fork(0);
        Check.due("there were 119", x.count(2), 119);
        Check.due("the 120th one", x.event(1), 119);
        Check.due("the 121st one", x.event(1), ForkedStamps.TOO_MANY);
        Check.due("of another one", x.event(0), ForkedStamps.TOO_MANY);
        Check.due("NO_SUCH comes before TOO_MANY", x.event(2), ForkedStamps.NO_SUCH);
        Check.due("there were 120", x.count(2), 120);
        Check.due("the height", x.height(0, 1, 15), 120);
        Check.due("undo()", x.undo(), 5);
        Check.due("the 120th one, of another one", x.event(0), 119);
        Check.due("whose it is", x.whose(119), 0);
        Check.due("TOO_MANY", x.event(1), ForkedStamps.TOO_MANY);
    }

    private static void sendWithoutSuchHelper() {
        ForkedStamps x = new ForkedStamps();
        for (int helper : new int[] {Integer.MIN_VALUE, -1, 1, 7, 8, 32, Integer.MAX_VALUE}) {
            Check.due("send(" + helper + ")", x.send(helper), ForkedStamps.NO_SUCH);
        }
        Check.due("no message", x.count(1), 0);
    }

    // "TOO_MANY if there are 8 messages"
    private static void sendOfEight() {
        ForkedStamps x = Scenes.messages(7);
        x.fork(0);
        Check.due("the eighth one", x.send(1), 7);
        Check.due("a ninth one", x.send(0), ForkedStamps.TOO_MANY);
        Check.due("of another one", x.send(1), ForkedStamps.TOO_MANY);
        Check.due("NO_SUCH comes before TOO_MANY", x.send(2), ForkedStamps.NO_SUCH);
        Check.due("there are 8", x.count(1), 8);
        Check.due("its sender", x.ofMessage(7, 0), 1);
        Check.due("drop(0)", x.drop(0), 7);
        Check.due("the eighth one again", x.send(0), 7);
        Check.due("a ninth one again", x.send(0), ForkedStamps.TOO_MANY);
        Check.due("undo()", x.undo(), 5);
        Check.due("and behind undo()", x.send(1), 7);
    }

    // "as they were when it was sent"
    private static void sentAsItWas() {
        ForkedStamps x = new ForkedStamps();
        x.send(0);
        x.event(0);
        x.send(0);
        x.event(0);
        Check.due("before the first event, heights", x.ofMessage(0, 1), 0);
        Check.due("before the first event, events", x.ofMessage(0, 2), 0);
        Check.due("behind the first event, heights", x.ofMessage(1, 1), 16);
        Check.due("behind the first event, events", x.ofMessage(1, 2), 1);
        Check.due("the first one is known", x.knows(1, 1, 0), 1);
        Check.due("the second one is not", x.knows(1, 1, 1), 0);
    }

    // "and the sender's number"
    private static void senderWhoIsGone() {
        ForkedStamps x = Scenes.eightHelpers();
        x.event(7);
        x.send(7);
        x.gather(7, 0);
        Check.due("its sender", x.ofMessage(0, 0), 7);
        Check.due("it can be received", x.receive(1, 0), 1);
        Check.due("its event is known", x.knows(0, 1, 0), 1);
        Check.due("another one gets the number", x.fork(0), 7);
        Check.due("its sender", x.ofMessage(0, 0), 7);
        Check.due("and can receive it", x.receive(7, 0), 2);
    }

    // "NO_SUCH if there is no such helper or message"
    private static void receiveWithoutSuchOne() {
        ForkedStamps x = Scenes.messages(2);
        for (int none : new int[] {Integer.MIN_VALUE, -1, 7, 8, 32, Integer.MAX_VALUE}) {
            Check.due("receive(0, " + none + ")", x.receive(0, none), ForkedStamps.NO_SUCH);
            Check.due("receive(" + none + ", 0)", x.receive(none, 0), ForkedStamps.NO_SUCH);
        }
        Check.due("receive(1, 1)", x.receive(1, 1), ForkedStamps.NO_SUCH);
        Check.due("receive(0, 2)", x.receive(0, 2), ForkedStamps.NO_SUCH);
        Check.due("receive(0, 1)", x.receive(0, 1), 0);
        x.drop(0);
        Check.due("receive(0, 1), dropped", x.receive(0, 1), ForkedStamps.NO_SUCH);
        Check.due("receive(0, 0), moved up", x.receive(0, 0), 1);
    }

    // "TOO_MANY if there were 120 events"
    private static void receiveAsLastEvent() {
        ForkedStamps x = Scenes.events(118);
        x.fork(0);
        x.event(0);
        x.send(0);
        Check.due("there were 119", x.count(2), 119);
        Check.due("the 120th one", x.receive(1, 0), 119);
        Check.due("the 121st one", x.receive(1, 0), ForkedStamps.TOO_MANY);
        Check.due("of another one", x.receive(0, 0), ForkedStamps.TOO_MANY);
        Check.due("NO_SUCH comes before TOO_MANY, helper", x.receive(2, 0), ForkedStamps.NO_SUCH);
        Check.due("NO_SUCH comes before TOO_MANY, message", x.receive(0, 1), ForkedStamps.NO_SUCH);
        x.undo();
        x.event(0);
        Check.due("nothing is taken over then", x.receive(1, 0), ForkedStamps.TOO_MANY);
        Check.due("the height of 1", x.height(0, 1, 0), 118);
        Check.due("what 1 knows", x.of(1, 4), 118);
    }

    // "then there is an event of the helper": also if the message brings nothing; "(which stays)"
    private static void receiveNothingNew() {
        ForkedStamps x = new ForkedStamps();
        x.send(0);
        Check.due("the own message", x.receive(0, 0), 0);
        Check.due("its event", x.of(0, 4), 1);
        Check.due("its heights", x.of(0, 3), 16);
        Check.due("once more", x.receive(0, 0), 1);
        Check.due("its heights", x.of(0, 3), 32);
        Check.due("the message stays", x.count(1), 1);
        Check.due("as it was, heights", x.ofMessage(0, 1), 0);
        Check.due("as it was, events", x.ofMessage(0, 2), 0);
    }

    // "when one is dropped, those behind it move up"
    private static void dropEachPlace() {
        for (int dropped = 0; dropped < 8; dropped++) {
            ForkedStamps x = Scenes.eightHelpers();
            for (int helper = 0; helper < 8; helper++) {
                for (int event = 0; event <= helper; event++) {
                    x.event(7 - helper);
                }
                x.send(7 - helper);
            }
            Check.due("drop(" + dropped + ")", x.drop(dropped), 7);
            for (int message = 0; message < 8; message++) {
                int was = message < dropped ? message : message + 1;
                String at = "message " + message + " behind drop(" + dropped + "): ";
                Check.due(at + "sender", x.ofMessage(message, 0), message < 7 ? 7 - was : ForkedStamps.NO_SUCH);
                Check.due(at + "heights", x.ofMessage(message, 1), message < 7 ? 2 * (was + 1) : ForkedStamps.NO_SUCH);
                Check.due(at + "events", x.ofMessage(message, 2), message < 7 ? was + 1 : ForkedStamps.NO_SUCH);
            }
            Check.due("a new one is behind them", x.send(0), 7);
            Check.due("its sender", x.ofMessage(7, 0), 0);
        }
    }

    // "NO_SUCH if there is no such message"
    private static void dropWithoutSuchMessage() {
        ForkedStamps x = new ForkedStamps();
        Check.due("there is none", x.drop(0), ForkedStamps.NO_SUCH);
        x.send(0);
        x.send(0);
        for (int message : new int[] {Integer.MIN_VALUE, -1, 2, 7, 8, 32, Integer.MAX_VALUE}) {
            Check.due("drop(" + message + ")", x.drop(message), ForkedStamps.NO_SUCH);
        }
        Check.due("drop(1)", x.drop(1), 1);
        Check.due("drop(1) again", x.drop(1), ForkedStamps.NO_SUCH);
    }

    // "Returns how many there are then"
    private static void dropTheLastOne() {
        ForkedStamps x = Scenes.messages(8);
        for (int left = 7; left >= 0; left--) {
            Check.due("drop(0)", x.drop(0), left);
            Check.due("count(1)", x.count(1), left);
        }
        Check.due("there is none", x.drop(0), ForkedStamps.NO_SUCH);
        Check.due("the first one again", x.send(0), 0);
    }
}
