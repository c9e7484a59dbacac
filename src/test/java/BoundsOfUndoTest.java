import java.util.ArrayList;
import java.util.List;

/** The bounds that promises 23 to 25 name, each in a test of its own, with the sentence that names it. */
public final class BoundsOfUndoTest {
    private static final int[] NO_SLOT = {Integer.MIN_VALUE, -2, -1, 2, 3, 32, Integer.MAX_VALUE};

    private interface Change {
        int on(ForkedStamps x);
    }

    // Each one can be made in Scenes.few().
    private static final Change[] CHANGES = {x -> x.fork(1), x -> x.gather(0, 1), x -> x.event(0), x -> x.send(0), x -> x.receive(0, 1),
        x -> x.drop(0), x -> x.restore(0)};

    public static void main(String[] args) {
        undoOfNothing();
        undoOfEachChange();
        historyOfSix();
        eachChangeDropsTheOldest();
        recordedAlthoughNothingIsDifferent();
        notRecorded();
        undoIsNoChange();
        undoAtTheLimits();
        undoKeepsPadSlotsAndHistory();
        saveOutOfRange();
        saveOfNothingAndAll();
        saveOverwrites();
        saveTwoSlots();
        restoreOutOfRange();
        restoreOfNothingSaved();
        restoreKeepsTheSlot();
        restoreOfNothingAndAll();
        restoreIsAChangeOfAFullHistory();
        restoreKeepsPadAndHistory();
        Check.end();
    }

    // "NOT_POSSIBLE if there is none"
    private static void undoOfNothing() {
        ForkedStamps x = new ForkedStamps();
        Check.due("nothing was changed", x.undo(), ForkedStamps.NOT_POSSIBLE);
        x.event(0);
        Check.due("one change", x.undo(), 0);
        Check.due("none more", x.undo(), ForkedStamps.NOT_POSSIBLE);
        Check.due("count(7)", x.count(7), 0);
    }

    // "everything except the pad, the slots and the history is as it was before it"
    private static void undoOfEachChange() {
        for (int i = 0; i < CHANGES.length; i++) {
            ForkedStamps x = Scenes.few();
            String before = Scenes.stateOf(x);
            int possible = x.count(7);
            Check.same("the change " + i + " can be made", CHANGES[i].on(x) >= 0, true);
            Check.due("one more, behind " + i, x.count(7), possible + 1);
            Check.same("something is different, behind " + i, Scenes.stateOf(x).equals(before), false);
            Check.due("undo() of " + i, x.undo(), possible);
            Check.same("behind undo() of " + i, Scenes.stateOf(x), before);
        }
    }

    // "A history of at most 6 states is kept"; "when one more is recorded, the oldest one is dropped"
    private static void historyOfSix() {
        for (int changes = 1; changes <= 14; changes++) {
            ForkedStamps x = Scenes.events(changes);
            int kept = Math.min(6, changes);
            Check.due(changes + " changes can be undone", x.count(7), kept);
            for (int left = kept - 1; left >= 0; left--) {
                Check.due("undo() behind " + changes, x.undo(), left);
                Check.due("the events then", x.count(2), changes - kept + left);
                Check.due("the heights then", x.of(0, 2), changes - kept + left);
            }
            Check.due("none more behind " + changes, x.undo(), ForkedStamps.NOT_POSSIBLE);
            Check.due("the oldest ones were dropped", x.count(2), changes - kept);
        }
    }

    // "each method that is a change, and returns no error, records the state before it": each one, when there are six already
    private static void eachChangeDropsTheOldest() {
        for (int i = 0; i < CHANGES.length; i++) {
            ForkedStamps x = Scenes.few();
            for (int event = 0; event < 6; event++) {
                x.event(0);
            }
            int events = x.count(2);
            Check.same("the change " + i + " can be made", CHANGES[i].on(x) >= 0, true);
            Check.due("still six, behind " + i, x.count(7), 6);
            Check.due("undo() of " + i, x.undo(), 5);
            for (int left = 4; left >= 0; left--) {
                Check.due("undo() of an event", x.undo(), left);
            }
            Check.due("five events were undone", x.count(2), events - 5);
            Check.due("none more behind " + i, x.undo(), ForkedStamps.NOT_POSSIBLE);
        }
    }

    // "(also if nothing is different then)"
    private static void recordedAlthoughNothingIsDifferent() {
        ForkedStamps x = new ForkedStamps();
        x.save(0);
        for (int i = 1; i <= 7; i++) {
            Check.due("restore(0)", x.restore(0), 0);
            Check.due("count(7)", x.count(7), Math.min(6, i));
        }
        for (int left = 5; left >= 0; left--) {
            Check.due("undo()", x.undo(), left);
        }
        Check.due("none more", x.undo(), ForkedStamps.NOT_POSSIBLE);
    }

    // "each method that is a change": no other one
    private static void notRecorded() {
        ForkedStamps x = Scenes.few();
        int possible = x.count(7);
        x.save(0);
        x.save(1);
        x.put(49);
        x.wipe();
        x.fault();
        x.of(0, 0);
        x.ofMessage(0, 0);
        x.height(0, 0, 0);
        x.knows(0, 0, 0);
        x.count(0);
        x.whose(0);
        x.order(0, 0, 0, 1);
        x.more(0, 0, 0, 1);
        x.orderToPad(0);
        x.printed(0, 0);
        x.ifReceive(0, 0, 0);
        x.laggard(0);
        Check.due("as many as before", x.count(7), possible);
    }

    // "Undoes the latest change": undoing is none
    private static void undoIsNoChange() {
        ForkedStamps x = Scenes.events(3);
        Check.due("undo()", x.undo(), 2);
        Check.due("undo() does not undo it", x.undo(), 1);
        Check.due("one event is left", x.count(2), 1);
        Check.due("the second one anew", x.event(0), 1);
        Check.due("count(7)", x.count(7), 2);
        Check.due("undo()", x.undo(), 1);
        Check.due("undo()", x.undo(), 0);
        Check.due("no event is left", x.count(2), 0);
    }

    // Undoing a change that had reached a limit makes it possible once more.
    private static void undoAtTheLimits() {
        ForkedStamps x = Scenes.eightHelpers();
        Check.due("9 helpers", x.fork(0), ForkedStamps.TOO_MANY);
        x.undo();
        Check.due("7 helpers", x.count(0), 127);
        Check.due("the share of who forked", x.of(3, 1), 4);
        Check.due("the eighth one", x.fork(3), 7);
        ForkedStamps y = Scenes.messages(8);
        Check.due("9 messages", y.send(0), ForkedStamps.TOO_MANY);
        y.undo();
        Check.due("the eighth one", y.send(0), 7);
        ForkedStamps z = Scenes.events(120);
        Check.due("121 events", z.event(0), ForkedStamps.TOO_MANY);
        z.undo();
        Check.due("the 120th one", z.event(0), 119);
        ForkedStamps w = Scenes.messages(1);
        w.drop(0);
        w.undo();
        Check.due("the only message is back", w.drop(0), 0);
        w.fork(0);
        w.gather(0, 1);
        w.undo();
        Check.due("who was gathered is back", w.count(0), 3);
        Check.due("with its cells", w.of(0, 0), 255);
        Check.due("and the other one has its own alone", w.of(1, 0), 65280);
    }

    // "everything except the pad, the slots and the history"
    private static void undoKeepsPadSlotsAndHistory() {
        ForkedStamps x = new ForkedStamps();
        x.event(0);
        x.event(0);
        Scenes.write(x, "2");
        x.save(0);
        Check.due("undo()", x.undo(), 1);
        Check.due("the pad", x.count(6), 1);
        Check.due("its text", x.orderToPad(0), ForkedStamps.BEFORE);
        x.wipe();
        Check.due("undo()", x.undo(), 0);
        Check.due("the empty pad", x.count(6), 0);
        Check.due("the slot", x.restore(0), 2);
        Check.due("the history", x.count(7), 1);
    }

    // "slot: 0 or 1", "BAD_VALUE if there is no such slot"
    private static void saveOutOfRange() {
        ForkedStamps x = new ForkedStamps();
        for (int slot : NO_SLOT) {
            Check.due("save(" + slot + ")", x.save(slot), ForkedStamps.BAD_VALUE);
        }
        Check.due("nothing was saved in 0", x.restore(0), ForkedStamps.NOT_POSSIBLE);
        Check.due("nothing was saved in 1", x.restore(1), ForkedStamps.NOT_POSSIBLE);
        Check.due("save(0)", x.save(0), 0);
        Check.due("save(1)", x.save(1), 0);
    }

    // "Returns how many events there were"
    private static void saveOfNothingAndAll() {
        ForkedStamps x = new ForkedStamps();
        Check.due("save(0) of nothing", x.save(0), 0);
        for (int event = 0; event < 120; event++) {
            x.event(0);
        }
        Check.due("save(1) of all", x.save(1), 120);
        Check.due("restore(0)", x.restore(0), 0);
        Check.due("save(0) of nothing", x.save(0), 0);
        Check.due("restore(1)", x.restore(1), 120);
    }

    // "and overwrites what was saved there"
    private static void saveOverwrites() {
        for (int slot = 0; slot < 2; slot++) {
            ForkedStamps x = Scenes.full();
            x.save(slot);
            x.gather(0, 1);
            x.drop(0);
            Check.due("save(" + slot + ") over it", x.save(slot), 120);
            String saved = Scenes.stateOf(x);
            x.undo();
            x.undo();
            Check.due("eight helpers behind undo()", x.count(0), 255);
            Check.due("restore(" + slot + ")", x.restore(slot), 120);
            Check.same("what was saved last", Scenes.stateOf(x), saved);
        }
    }

    // "in a slot": the other one keeps its own
    private static void saveTwoSlots() {
        ForkedStamps x = new ForkedStamps();
        x.event(0);
        x.save(1);
        x.event(0);
        x.event(0);
        x.save(0);
        x.event(0);
        Check.due("restore(1)", x.restore(1), 1);
        Check.due("restore(0)", x.restore(0), 3);
        Check.due("restore(1) again", x.restore(1), 1);
        Check.due("the heights", x.of(0, 2), 1);
    }

    // "BAD_VALUE if there is no such slot"
    private static void restoreOutOfRange() {
        ForkedStamps x = new ForkedStamps();
        for (int slot : NO_SLOT) {
            Check.due("restore(" + slot + "), nothing saved", x.restore(slot), ForkedStamps.BAD_VALUE);
        }
        x.save(0);
        x.save(1);
        for (int slot : NO_SLOT) {
            Check.due("restore(" + slot + ")", x.restore(slot), ForkedStamps.BAD_VALUE);
        }
        Check.due("nothing was recorded", x.count(7), 0);
    }

    // "NOT_POSSIBLE if nothing was saved in it"
    private static void restoreOfNothingSaved() {
        for (int slot = 0; slot < 2; slot++) {
            ForkedStamps x = Scenes.events(2);
            Check.due("nothing was saved", x.restore(slot), ForkedStamps.NOT_POSSIBLE);
            x.save(1 - slot);
            Check.due("the other one was saved", x.restore(slot), ForkedStamps.NOT_POSSIBLE);
            Check.due("the events", x.count(2), 2);
            Check.due("that one", x.restore(1 - slot), 2);
            x.save(slot);
            Check.due("now it was saved", x.restore(slot), 2);
        }
    }

    // "Restores what was saved last in a slot, which keeps it"
    private static void restoreKeepsTheSlot() {
        ForkedStamps x = Scenes.few();
        x.restore(0);
        String saved = Scenes.stateOf(x);
        for (Change change : new Change[] {CHANGES[0], CHANGES[1], CHANGES[4]}) {
            change.on(x);
            x.event(1);
            x.drop(0);
            x.restore(0);
            Check.same("once more", Scenes.stateOf(x), saved);
        }
    }

    // "Returns how many events there were then"
    private static void restoreOfNothingAndAll() {
        ForkedStamps x = new ForkedStamps();
        x.save(0);
        x.restore(0);
        Check.due("restored what is new", x.count(0), 1);
        for (int event = 0; event < 120; event++) {
            x.event(0);
        }
        x.save(1);
        Check.due("restore(0)", x.restore(0), 0);
        Check.due("no event is known", x.of(0, 5), ForkedStamps.NONE);
        Check.due("there is none", x.whose(0), ForkedStamps.NO_SUCH);
        Check.due("the first one once more", x.event(0), 0);
        Check.due("restore(1)", x.restore(1), 120);
        Check.due("none can follow", x.event(0), ForkedStamps.TOO_MANY);
        Check.due("undo()", x.undo(), 5);
        Check.due("one event", x.count(2), 1);
    }

    // "This is a change"
    private static void restoreIsAChangeOfAFullHistory() {
        ForkedStamps x = new ForkedStamps();
        x.save(0);
        List<Integer> events = new ArrayList<>();
        for (int event = 0; event < 6; event++) {
            x.event(0);
        }
        x.restore(0);
        Check.due("six can be undone", x.count(7), 6);
        for (int left = 5; left >= 0; left--) {
            Check.due("undo()", x.undo(), left);
            events.add(x.count(2));
        }
        Check.same("the events behind each undo()", events.toString(), "[6, 5, 4, 3, 2, 1]");
        Check.due("none more", x.undo(), ForkedStamps.NOT_POSSIBLE);
    }

    // "Saves everything except the pad, the history and the slots"
    private static void restoreKeepsPadAndHistory() {
        ForkedStamps x = new ForkedStamps();
        x.event(0);
        Scenes.write(x, "(1,2)");
        x.save(0);
        x.event(0);
        x.save(1);
        x.wipe();
        Scenes.write(x, "2");
        Check.due("restore(0)", x.restore(0), 1);
        Check.due("the pad is not restored", x.count(6), 1);
        Check.due("its text", x.orderToPad(0), ForkedStamps.BEFORE);
        Check.due("the history is not restored", x.count(7), 3);
        Check.due("the other slot is not restored", x.restore(1), 2);
    }
}
