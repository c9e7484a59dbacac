/** Long runs of calls, always the same ones, on an object and on the slow model; the answers have to agree. */
public final class ModelTest {
    private static final int RUNS = 1500, CALLS_OF_ONE_OBJECT = 512;
    private static final int[] ODD = {Integer.MIN_VALUE, -121, -6, -1, 8, 9, 15, 16, 119, 120, 256, Integer.MAX_VALUE};

    private static long seed;
    private static ForkedStamps x;
    private static Model model;
    // What still has to be put into the pad, so that whole texts come into it.
    private static String pending = "";

    public static void main(String[] args) {
        for (int run = 0; run < RUNS; run++) {
            seed = run * 7919L + 1;
            x = new ForkedStamps();
            model = new Model();
            pending = "";
            // Runs differ in what they do most: some reach 120 events, some keep many helpers.
            int eager = below(5);
            for (int call = 0; call < CALLS_OF_ONE_OBJECT; call++) {
                step("run " + run + ", call " + call + ": ", eager);
            }
        }
        Check.end();
    }

    private static int below(int bound) {
        seed = seed * 6364136223846793005L + 1442695040888963407L;
        return (int) ((seed >>> 33) % bound);
    }

    private static int number(int bound) {
        return below(25) == 0 ? ODD[below(ODD.length)] : below(bound);
    }

    private static int kind() {
        return below(30) == 0 ? ODD[below(ODD.length)] : below(2);
    }

    /** Mostly a helper who is there. */
    private static int helper() {
        int helper = number(8);
        for (int i = 0; i < 8 && below(8) != 0 && model.of(helper, 0) < 0; i++) {
            helper = below(8);
        }
        return helper;
    }

    private static int message() {
        return below(10) == 0 ? number(8) : below(Math.max(1, model.count(1)));
    }

    private static void step(String at, int eager) {
        if (eager == 0 && below(3) > 0) {
            event(at, helper());
        } else if (eager == 1 && below(4) == 0) {
            fork(at, helper());
        } else if (below(5) < 2) {
            change(at);
        } else if (below(4) == 0) {
            text(at);
        } else {
            look(at);
        }
    }

    private static void event(String at, int helper) {
        Check.due(at + "event(" + helper + ")", x.event(helper), model.event(helper));
    }

    private static void fork(String at, int helper) {
        Check.due(at + "fork(" + helper + ")", x.fork(helper), model.fork(helper));
    }

    private static void change(String at) {
        int helper = helper();
        int other = helper();
        int message = message();
        int slot = below(12) == 0 ? ODD[below(ODD.length)] : below(2);
        switch (below(16)) {
            case 0: case 1: case 2: fork(at, helper); break;
            case 3: Check.due(at + "gather(" + helper + ", " + other + ")", x.gather(helper, other), model.gather(helper, other)); break;
            case 4: case 5: case 6: event(at, helper); break;
            case 7: case 8: Check.due(at + "send(" + helper + ")", x.send(helper), model.send(helper)); break;
            case 9: case 10: case 11:
                Check.due(at + "receive(" + helper + ", " + message + ")", x.receive(helper, message), model.receive(helper, message));
                break;
            case 12: Check.due(at + "drop(" + message + ")", x.drop(message), model.drop(message)); break;
            case 13: Check.due(at + "undo()", x.undo(), model.undo()); break;
            case 14: Check.due(at + "save(" + slot + ")", x.save(slot), model.save(slot)); break;
            default: if (below(3) == 0) { Check.due(at + "restore(" + slot + ")", x.restore(slot), model.restore(slot)); }
        }
    }

    private static void text(String at) {
        if (!pending.isEmpty()) {
            int length = Math.min(pending.length(), 1 + below(8));
            long characters = Check.code(pending.substring(0, length));
            Check.due(at + "put(" + characters + ")", x.put(characters), model.put(characters));
            pending = pending.substring(length);
        } else if (below(6) == 0) {
            long characters = below(2) == 0 ? oddCharacters() : 33 + below(94);
            Check.due(at + "put(" + characters + ")", x.put(characters), model.put(characters));
        } else {
            Check.due(at + "wipe()", x.wipe(), model.wipe());
            pending = below(3) == 0 ? randomTree(16) : model.textOf(helper());
            pending = below(3) == 0 ? spoiled(pending) : pending;
        }
    }

    private static long oddCharacters() {
        long characters = 0;
        for (int i = below(9); i > 0; i--) {
            characters = characters << 8 | (below(6) == 0 ? below(256) : 48 + below(10));
        }
        return characters;
    }

    private static String randomTree(int size) {
        if (size > 1 && below(16) < size) {
            return "(" + randomTree(size / 2) + "," + randomTree(size / 2) + ")";
        }
        return Integer.toString(below(4) == 0 ? below(300) : below(12));
    }

    private static String spoiled(String text) {
        int place = below(text.length() + 1);
        String signs = "(),0123456789";
        String sign = String.valueOf(signs.charAt(below(signs.length())));
        switch (below(3)) {
            case 0: return text.substring(0, place);
            case 1: return text.substring(0, place) + sign + text.substring(place);
            default: return text.substring(0, place) + sign + text.substring(Math.min(text.length(), place + 1));
        }
    }

    private static void look(String at) {
        int kind = kind();
        int number = kind == 0 ? helper() : message();
        int otherKind = kind();
        int other = otherKind == 0 ? helper() : message();
        int helper = helper();
        int message = message();
        int what = number(9);
        int cell = number(16);
        int event = below(3) == 0 ? number(121) : below(Math.max(1, model.count(2)));
        int place = number(40);
        String four = kind + ", " + number + ", " + otherKind + ", " + other + ")";
        switch (below(16)) {
            case 0: case 1: Check.due(at + "of(" + helper + ", " + what + ")", x.of(helper, what), model.of(helper, what)); break;
            case 2: Check.due(at + "ofMessage(" + message + ", " + what % 5 + ")", x.ofMessage(message, what % 5), model.ofMessage(message, what % 5)); break;
            case 3: Check.due(at + "height(" + kind + ", " + number + ", " + cell + ")", x.height(kind, number, cell), model.height(kind, number, cell)); break;
            case 4: Check.due(at + "knows(" + kind + ", " + number + ", " + event + ")", x.knows(kind, number, event), model.knows(kind, number, event)); break;
            case 5: case 6: Check.due(at + "count(" + what + ")", x.count(what), model.count(what)); break;
            case 7: Check.due(at + "whose(" + event + ")", x.whose(event), model.whose(event)); break;
            case 8: case 9: Check.due(at + "order(" + four, x.order(kind, number, otherKind, other), model.order(kind, number, otherKind, other)); break;
            case 10: Check.due(at + "more(" + four, x.more(kind, number, otherKind, other), model.more(kind, number, otherKind, other)); break;
            case 11: Check.due(at + "orderToPad(" + helper + ")", x.orderToPad(helper), model.orderToPad(helper)); break;
            case 12: Check.due(at + "printed(" + helper + ", " + place + ")", x.printed(helper, place), model.printed(helper, place)); break;
            case 13: Check.due(at + "ifReceive(" + helper + ", " + message + ", " + what % 4 + ")", x.ifReceive(helper, message, what % 4), model.ifReceive(helper, message, what % 4)); break;
            case 14: Check.due(at + "laggard(" + what % 3 + ")", x.laggard(what % 3), model.laggard(what % 3)); break;
            default: Check.due(at + "fault()", x.fault(), model.fault());
        }
    }
}
