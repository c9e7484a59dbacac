import java.util.ArrayList;
import java.util.List;

/** Promises 23 to 25: undo, save and restore. */
public final class UndoTest {
    public static void main(String[] args) {
        nothingToUndo();
        eachChangeCanBeUndone();
        sixStates();
        whatIsNoChange();
        saveAndRestore();
        restoreIsAChange();
        undoKeepsTheSlots();
        aNewStateOverTheOldOne();
        messagesAndActorsComeBack();
        slotErrors();
        Check.end();
    }

    private static void nothingToUndo() {
        ForkedStamps x = new ForkedStamps();
        Check.due("undo()", x.undo(), ForkedStamps.NOT_POSSIBLE);
        x.event(0);
        Check.due("undo()", x.undo(), 0);
        Check.due("count(2)", x.count(2), 0);
        Check.due("undo() again", x.undo(), ForkedStamps.NOT_POSSIBLE);
    }

    private static void eachChangeCanBeUndone() {
        for (int change = 0; change < 7; change++) {
            ForkedStamps x = new ForkedStamps();
            x.fork(0);
            x.event(1);
            x.send(1);
            x.event(0);
            x.save(1);
            String before = Check.stateOf(x);
            int possible = x.count(7);
            switch (change) {
                case 0: Check.due("fork(1)", x.fork(1), 2); break;
                case 1: Check.due("gather(1, 0)", x.gather(1, 0), 16); break;
                case 2: Check.due("event(0)", x.event(0), 2); break;
                case 3: Check.due("send(0)", x.send(0), 1); break;
                case 4: Check.due("receive(0, 0)", x.receive(0, 0), 2); break;
                case 5: Check.due("drop(0)", x.drop(0), 0); break;
                default: Check.due("restore(1)", x.restore(1), 2); break;
            }
            Check.due("one more can be undone", x.count(7), possible + 1);
            Check.due("undo()", x.undo(), possible);
            Check.same("all is back behind change " + change, Check.stateOf(x), before);
        }
    }

    private static String sumsOf(ForkedStamps x) {
        return x.count(2) + " events; " + x.of(0, 3) + " " + x.of(0, 4) + "; " + x.of(1, 3) + " " + x.of(1, 4);
    }

    private static void sixStates() {
        ForkedStamps x = new ForkedStamps();
        x.fork(0);
        List<String> states = new ArrayList<>();
        for (int i = 0; i < 20; i++) {
            states.add(sumsOf(x));
            x.event(i % 3 / 2);
            Check.due("count(7)", x.count(7), Math.min(6, i + 2));
        }
        for (int left = 5; left >= 0; left--) {
            Check.due("undo()", x.undo(), left);
            Check.same("the state with " + left + " left", sumsOf(x), states.get(14 + left));
        }
        Check.due("the oldest ones were dropped", x.undo(), ForkedStamps.NOT_POSSIBLE);
        Check.same("the state", sumsOf(x), states.get(14));
        x.event(1);
        Check.due("count(7)", x.count(7), 1);
    }

    private static void whatIsNoChange() {
        ForkedStamps x = new ForkedStamps();
        x.save(0);
        x.put(49);
        x.wipe();
        x.order(0, 0, 0, 0);
        x.laggard(0);
        x.fork(9);
        x.gather(0, 0);
        x.event(9);
        x.send(9);
        x.receive(0, 0);
        x.drop(0);
        x.restore(1);
        x.restore(2);
        Check.due("nothing was recorded", x.count(7), 0);
        x.restore(0);
        Check.due("also if nothing is different", x.count(7), 1);
        Check.due("undo()", x.undo(), 0);
    }

    private static void saveAndRestore() {
        ForkedStamps x = new ForkedStamps();
        Check.due("save(0)", x.save(0), 0);
        String first = Check.stateOf(x);
        x.fork(0);
        x.event(1);
        x.event(0);
        x.send(1);
        Check.due("save(1)", x.save(1), 2);
        String second = Check.stateOf(x);
        x.gather(0, 1);
        x.event(1);
        x.drop(0);
        Check.due("restore(0)", x.restore(0), 0);
        Check.same("the slot 0", Check.stateOf(x), first);
        Check.due("restore(1)", x.restore(1), 2);
        Check.same("the slot 1", Check.stateOf(x), second);
        x.event(0);
        Check.due("the slot keeps it", x.restore(1), 2);
        Check.same("the slot 1 again", Check.stateOf(x), second);
        Check.due("save(0) overwrites", x.save(0), 2);
        x.event(0);
        Check.due("restore(0)", x.restore(0), 2);
        Check.same("the slot 0 again", Check.stateOf(x), second);
    }

    private static void restoreIsAChange() {
        ForkedStamps x = new ForkedStamps();
        x.save(0);
        x.event(0);
        x.fork(0);
        String before = Check.stateOf(x);
        Check.due("restore(0)", x.restore(0), 0);
        Check.due("count(7)", x.count(7), 3);
        Check.due("undo()", x.undo(), 2);
        Check.same("what was before it", Check.stateOf(x), before);
        for (int i = 0; i < 10; i++) {
            x.restore(0);
        }
        Check.due("count(7)", x.count(7), 6);
        for (int left = 5; left >= 0; left--) {
            Check.due("undo()", x.undo(), left);
        }
        Check.due("count(2)", x.count(2), 0);
    }

    private static void undoKeepsTheSlots() {
        ForkedStamps x = new ForkedStamps();
        x.event(0);
        x.event(0);
        x.save(0);
        x.undo();
        x.undo();
        Check.due("restore(0)", x.restore(0), 2);
        Check.due("save(0) is not undone", x.undo(), 0);
        x.save(0);
        x.restore(0);
        x.undo();
        Check.due("restore(0)", x.restore(0), 0);
        Check.due("the history is not restored", x.count(7), 1);
    }

    private static void aNewStateOverTheOldOne() {
        ForkedStamps x = new ForkedStamps();
        x.fork(0);
        x.event(0);
        x.save(0);
        x.event(0);
        x.event(0);
        x.undo();
        x.undo();
        Check.due("the number is free again", x.event(1), 1);
        Check.due("whose(1)", x.whose(1), 1);
        Check.due("0 does not know it", x.knows(0, 0, 1), 0);
        x.undo();
        x.event(0);
        Check.due("whose(1)", x.whose(1), 0);
        x.restore(0);
        Check.due("count(2)", x.count(2), 1);
        Check.due("whose(1)", x.whose(1), ForkedStamps.NO_SUCH);
        x.undo();
        Check.due("whose(1)", x.whose(1), 0);
        Check.due("knows(0, 0, 1)", x.knows(0, 0, 1), 1);
    }

    private static void messagesAndActorsComeBack() {
        ForkedStamps x = new ForkedStamps();
        x.fork(0);
        x.event(0);
        x.send(0);
        x.save(0);
        String saved = Check.stateOf(x);
        x.undo();
        x.undo();
        x.event(1);
        x.send(1);
        String later = Check.stateOf(x);
        Check.due("restore(0)", x.restore(0), 1);
        Check.due("whose(0)", x.whose(0), 0);
        Check.due("ofMessage(0, 0)", x.ofMessage(0, 0), 0);
        Check.due("height(1, 0, 0)", x.height(1, 0, 0), 1);
        Check.same("the saved state", Check.stateOf(x), saved);
        Check.due("undo()", x.undo(), 3);
        Check.due("whose(0)", x.whose(0), 1);
        Check.due("ofMessage(0, 0)", x.ofMessage(0, 0), 1);
        Check.due("height(1, 0, 0)", x.height(1, 0, 0), 0);
        Check.same("the state before it", Check.stateOf(x), later);
    }

    private static void slotErrors() {
        ForkedStamps x = new ForkedStamps();
        for (int slot : new int[] {-1, 2, 8, Integer.MIN_VALUE, Integer.MAX_VALUE}) {
            Check.due("save(" + slot + ")", x.save(slot), ForkedStamps.BAD_VALUE);
            Check.due("restore(" + slot + ")", x.restore(slot), ForkedStamps.BAD_VALUE);
        }
        x.save(1);
        Check.due("the other slot is empty", x.restore(0), ForkedStamps.NOT_POSSIBLE);
        Check.due("restore(1)", x.restore(1), 0);
    }
}
