import java.util.ArrayList;
import java.util.List;

/** What the tests share: due answers, texts for the pad, and all that an object shows. */
final class Check {
    private static int checked = 0;
    private static int wrong = 0;

    private Check() {
    }

    static void due(String call, long got, long want) {
        checked++;
        if (got != want) {
            wrong++;
            System.out.println(call + " answered " + got + ", due is " + want);
        }
    }

    static void same(String what, Object got, Object want) {
        checked++;
        if (!got.equals(want)) {
            wrong++;
            System.out.println(what + ": got " + got + ", due is " + want);
        }
    }

    static void end() {
        System.out.println(checked + " checks, " + wrong + " wrong");
        if (wrong != 0 || checked == 0) {
            System.exit(1);
        }
    }

    /** One to eight characters as the number that put() takes. */
    static long code(String characters) {
        long code = 0;
        for (char character : characters.toCharArray()) {
            code = code << 8 | character;
        }
        return code;
    }

    static void write(ForkedStamps x, String text) {
        for (int from = 0; from < text.length(); from += 8) {
            String part = text.substring(from, Math.min(from + 8, text.length()));
            due("put(" + part + ")", x.put(code(part)), x.count(6));
        }
    }

    static void rewrite(ForkedStamps x, String text) {
        x.wipe();
        write(x, text);
        due("the length of " + text, x.count(6), text.length());
    }

    static String textOf(ForkedStamps x, int helper) {
        StringBuilder text = new StringBuilder();
        for (int place = 0; x.printed(helper, place) != ForkedStamps.NO_SUCH; place++) {
            text.append((char) x.printed(helper, place));
        }
        return text.toString();
    }

    static String heightsOf(ForkedStamps x, int kind, int number) {
        StringBuilder heights = new StringBuilder();
        for (int cell = 0; cell < 16; cell++) {
            heights.append(cell == 0 ? "" : " ").append(x.height(kind, number, cell));
        }
        return heights.toString();
    }

    static String knownBy(ForkedStamps x, int kind, int number) {
        List<Integer> known = new ArrayList<>();
        for (int event = 0; event < x.count(2); event++) {
            if (x.knows(kind, number, event) == 1) {
                known.add(event);
            }
        }
        return known.toString();
    }

    /** All that undo brings back, as the calls that change nothing show it. */
    static String stateOf(ForkedStamps x) {
        StringBuilder state = new StringBuilder("helpers " + x.count(0));
        for (int helper = 0; helper < 8; helper++) {
            if ((x.count(0) >> helper & 1) == 1) {
                state.append("; ").append(helper).append(": ").append(x.of(helper, 0)).append(" / ");
                state.append(heightsOf(x, 0, helper)).append(" / ").append(knownBy(x, 0, helper));
            }
        }
        state.append("; messages ").append(x.count(1));
        for (int message = 0; message < x.count(1); message++) {
            state.append("; ").append(x.ofMessage(message, 0)).append(": ");
            state.append(heightsOf(x, 1, message)).append(" / ").append(knownBy(x, 1, message));
        }
        state.append("; events");
        for (int event = 0; event < x.count(2); event++) {
            state.append(' ').append(x.whose(event));
        }
        return state.toString();
    }

    /** The state, the pad as far as it shows, and how many changes can be undone. */
    static String allOf(ForkedStamps x) {
        StringBuilder all = new StringBuilder(stateOf(x));
        all.append("; pad ").append(x.count(6)).append(' ').append(x.fault());
        for (int helper = 0; helper < 8; helper++) {
            all.append(' ').append(x.orderToPad(helper));
        }
        return all.append("; undo ").append(x.count(7)).toString();
    }
}
