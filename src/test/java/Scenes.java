import java.util.ArrayList;
import java.util.List;

/** Objects in the states that the tests of bounds begin with; each one is made by few of the 512 calls. */
final class Scenes {
    private Scenes() {
    }

    /** The helpers 0 to 7 have two cells each; it takes seven calls. */
    static ForkedStamps eightHelpers() {
        ForkedStamps x = new ForkedStamps();
        for (int helper : new int[] {0, 0, 1, 0, 1, 2, 3}) {
            x.fork(helper);
        }
        return x;
    }

    /** 0 and 4 have one cell each, 3 has two, 2 has four, 1 has eight. */
    static ForkedStamps halvedFourTimes() {
        ForkedStamps x = new ForkedStamps();
        for (int i = 0; i < 4; i++) {
            x.fork(0);
        }
        return x;
    }

    /** The helper 0 alone, with so many events. */
    static ForkedStamps events(int amount) {
        ForkedStamps x = new ForkedStamps();
        for (int i = 0; i < amount; i++) {
            x.event(0);
        }
        return x;
    }

    /** The helper 0 alone, with so many messages. */
    static ForkedStamps messages(int amount) {
        ForkedStamps x = new ForkedStamps();
        for (int i = 0; i < amount; i++) {
            x.send(0);
        }
        return x;
    }

    /** 8 helpers, 8 messages, 120 events, 64 characters, a saved slot 1, and just one change that can be undone. */
    static ForkedStamps full() {
        ForkedStamps x = eightHelpers();
        for (int event = 0; event < 112; event++) {
            x.event(event * 5 % 8);
        }
        for (int message = 0; message < 8; message++) {
            x.send(message);
        }
        for (int message = 0; message < 8; message++) {
            x.receive((message + 3) % 8, message);
        }
        write(x, "((((1,2),(3,4)),((5,6),(7,8))),(((9,10),(11,12)),((13,14),15)))(");
        x.save(1);
        for (int i = 0; i < 6; i++) {
            x.undo();
        }
        x.restore(1);
        return x;
    }

    /** Two helpers who each had two events, one message of each, a pad that is no stamp, and a saved slot 0. */
    static ForkedStamps few() {
        ForkedStamps x = new ForkedStamps();
        x.fork(0);
        x.event(0);
        x.send(0);
        x.event(1);
        x.send(1);
        x.receive(1, 0);
        x.event(0);
        x.save(0);
        write(x, "(1,(0,2)");
        x.undo();
        return x;
    }

    /**
     * One helper who has all cells; each even one has a height that is greater by one than that of the cell behind it.
     * Answers the helper; it takes 72 calls more than the height tells.
     */
    static int raggedRow(ForkedStamps x, int height) {
        int helper = 0;
        for (int i = 0; i < height; i++) {
            x.event(helper);
        }
        for (int cell = 0; cell < 16; cell += 2) {
            helper = raiseCell(x, helper, cell);
        }
        return helper;
    }

    /** A helper who has all cells forks until one of the new ones has that cell alone, and it gathers all behind its event. */
    private static int raiseCell(ForkedStamps x, int whole, int cell) {
        int helper = whole;
        int first = 0;
        List<Integer> others = new ArrayList<>();
        for (int size = 8; size >= 1; size /= 2) {
            int joined = x.fork(helper);
            boolean isUpper = cell >= first + size;
            others.add(isUpper ? helper : joined);
            helper = isUpper ? joined : helper;
            first += isUpper ? size : 0;
        }
        x.event(helper);
        for (int other : others) {
            x.gather(other, helper);
        }
        return helper;
    }

    static void write(ForkedStamps x, String text) {
        for (int from = 0; from < text.length(); from += 8) {
            x.put(Check.code(text.substring(from, Math.min(from + 8, text.length()))));
        }
    }

    /** What undo brings back, as far as 106 calls show it, however much has happened. */
    static String stateOf(ForkedStamps x) {
        StringBuilder state = new StringBuilder();
        for (int what = 0; what < 6; what++) {
            state.append(x.count(what)).append(' ');
        }
        state.append("laggard ").append(x.laggard(0)).append(' ').append(x.laggard(1));
        for (int helper = 0; helper < 8; helper++) {
            state.append("; ").append(helper);
            for (int what = 0; what < 8; what++) {
                state.append(' ').append(x.of(helper, what));
            }
        }
        for (int message = 0; message < 8; message++) {
            state.append("; message");
            for (int what = 0; what < 4; what++) {
                state.append(' ').append(x.ofMessage(message, what));
            }
        }
        return state.append("; ").append(x.whose(x.count(2) - 1)).toString();
    }

    /** The state, the pad and the history, as far as 111 calls show them. */
    static String digestOf(ForkedStamps x) {
        StringBuilder digest = new StringBuilder(stateOf(x));
        digest.append("; pad ").append(x.count(6)).append(' ').append(x.fault()).append(' ').append(x.orderToPad(x.laggard(0)));
        return digest.append("; undo ").append(x.count(7)).toString();
    }
}
