import java.util.ArrayDeque;
import java.util.ArrayList;
import java.util.Deque;
import java.util.List;
import java.util.Map;
import java.util.Set;
import java.util.TreeMap;
import java.util.TreeSet;

/** The document once more, with sets and maps, to compare the class with; slow and plain. */
final class Model {
    static final int NO_SUCH = -1, BAD_VALUE = -2, BAD_TEXT = -3, TOO_MANY = -4, NOT_POSSIBLE = -5, NONE = -6;

    private static final Set<String> NUMBERS = new TreeSet<>();
    static {
        for (int number = 0; number <= 250; number++) {
            NUMBERS.add(String.valueOf(number));
        }
    }

    private static final class Stamp {
        final List<Integer> heights = new ArrayList<>();
        final Set<Integer> known = new TreeSet<>();

        Stamp copy() {
            Stamp copy = new Stamp();
            copy.heights.addAll(heights);
            copy.known.addAll(known);
            return copy;
        }

        void takeOver(Stamp other) {
            for (int cell = 0; cell < 16; cell++) {
                heights.set(cell, Math.max(heights.get(cell), other.heights.get(cell)));
            }
            known.addAll(other.known);
        }

        boolean isNowhereAbove(Stamp other) {
            for (int cell = 0; cell < 16; cell++) {
                if (heights.get(cell) > other.heights.get(cell)) {
                    return false;
                }
            }
            return true;
        }

        int orderTo(Stamp other) {
            boolean below = isNowhereAbove(other);
            boolean above = other.isNowhereAbove(this);
            return below && above ? 0 : below ? 1 : above ? 2 : 3;
        }

        int sum() {
            return heights.stream().mapToInt(Integer::intValue).sum();
        }

        int moreThan(Stamp other) {
            Set<Integer> rest = new TreeSet<>(known);
            rest.removeAll(other.known);
            return rest.size();
        }

        String text() {
            return text(heights);
        }

        private static String text(List<Integer> row) {
            if (new TreeSet<>(row).size() == 1) {
                return row.get(0).toString();
            }
            int half = row.size() / 2;
            return "(" + text(row.subList(0, half)) + "," + text(row.subList(half, row.size())) + ")";
        }

        int knots() {
            return (int) text().chars().filter(character -> character == '(').count();
        }
    }

    private static final class Holder {
        Set<Integer> cells = new TreeSet<>();
        Stamp stamp = new Stamp();
        int sender;

        Holder copy() {
            Holder copy = new Holder();
            copy.cells.addAll(cells);
            copy.stamp = stamp.copy();
            copy.sender = sender;
            return copy;
        }

        void happen(int event) {
            TreeSet<Integer> own = new TreeSet<>();
            for (int cell : cells) {
                own.add(stamp.heights.get(cell));
            }
            int raised = own.size() > 1 ? own.last() : own.last() + 1;
            for (int cell : cells) {
                stamp.heights.set(cell, raised);
            }
            stamp.known.add(event);
        }
    }

    private static final class State {
        final Map<Integer, Holder> helpers = new TreeMap<>();
        final List<Holder> messages = new ArrayList<>();
        final List<Integer> actors = new ArrayList<>();

        State copy() {
            State copy = new State();
            helpers.forEach((number, helper) -> copy.helpers.put(number, helper.copy()));
            messages.forEach(message -> copy.messages.add(message.copy()));
            copy.actors.addAll(actors);
            return copy;
        }
    }

    private static final class Fault extends Exception {
        private static final long serialVersionUID = 1;
        final int place;

        Fault(int place) {
            this.place = place;
        }
    }

    private State now = new State();
    private final Deque<State> history = new ArrayDeque<>();
    private final State[] slots = new State[2];
    private String pad = "";

    Model() {
        Holder first = new Holder();
        for (int cell = 0; cell < 16; cell++) {
            first.cells.add(cell);
            first.stamp.heights.add(0);
        }
        now.helpers.put(0, first);
    }

    private void change() {
        history.addLast(now.copy());
        if (history.size() > 6) {
            history.removeFirst();
        }
    }

    private Holder helper(int number) {
        return now.helpers.get(number);
    }

    private Holder message(int number) {
        return number >= 0 && number < now.messages.size() ? now.messages.get(number) : null;
    }

    private Holder holder(int kind, int number) {
        return kind == 0 ? helper(number) : message(number);
    }

    private static boolean isKind(int kind) {
        return kind == 0 || kind == 1;
    }

    int fork(int helper) {
        if (helper(helper) == null) {
            return NO_SUCH;
        }
        if (now.helpers.size() == 8) {
            return TOO_MANY;
        }
        List<Integer> cells = new ArrayList<>(helper(helper).cells);
        if (cells.size() == 1) {
            return NOT_POSSIBLE;
        }
        change();
        int joining = 0;
        while (now.helpers.containsKey(joining)) {
            joining++;
        }
        Holder other = helper(helper).copy();
        int staying = cells.size() - cells.size() / 2;
        helper(helper).cells = new TreeSet<>(cells.subList(0, staying));
        other.cells = new TreeSet<>(cells.subList(staying, cells.size()));
        now.helpers.put(joining, other);
        return joining;
    }

    int gather(int helper, int by) {
        if (helper(helper) == null || helper(by) == null) {
            return NO_SUCH;
        }
        if (helper == by) {
            return BAD_VALUE;
        }
        change();
        Holder leaving = now.helpers.remove(helper);
        helper(by).cells.addAll(leaving.cells);
        helper(by).stamp.takeOver(leaving.stamp);
        return helper(by).cells.size();
    }

    private int happen(int helper) {
        int event = now.actors.size();
        helper(helper).happen(event);
        now.actors.add(helper);
        return event;
    }

    int event(int helper) {
        if (helper(helper) == null) {
            return NO_SUCH;
        }
        if (now.actors.size() == 120) {
            return TOO_MANY;
        }
        change();
        return happen(helper);
    }

    int send(int helper) {
        if (helper(helper) == null) {
            return NO_SUCH;
        }
        if (now.messages.size() == 8) {
            return TOO_MANY;
        }
        change();
        Holder message = helper(helper).copy();
        message.sender = helper;
        now.messages.add(message);
        return now.messages.size() - 1;
    }

    int receive(int helper, int message) {
        if (helper(helper) == null || message(message) == null) {
            return NO_SUCH;
        }
        if (now.actors.size() == 120) {
            return TOO_MANY;
        }
        change();
        helper(helper).stamp.takeOver(message(message).stamp);
        return happen(helper);
    }

    int drop(int message) {
        if (message(message) == null) {
            return NO_SUCH;
        }
        change();
        now.messages.remove(message);
        return now.messages.size();
    }

    int of(int helper, int what) {
        Holder holder = helper(helper);
        if (holder == null) {
            return NO_SUCH;
        }
        Stamp stamp = holder.stamp;
        return switch (what) {
            case 0 -> holder.cells.stream().mapToInt(cell -> 1 << cell).sum();
            case 1 -> holder.cells.size();
            case 2 -> new TreeSet<>(stamp.heights).last();
            case 3 -> stamp.sum();
            case 4 -> stamp.known.size();
            case 5 -> stamp.known.isEmpty() ? NONE : new TreeSet<>(stamp.known).last();
            case 6 -> stamp.knots();
            case 7 -> stamp.text().length();
            default -> BAD_VALUE;
        };
    }

    int ofMessage(int message, int what) {
        Holder holder = message(message);
        if (holder == null) {
            return NO_SUCH;
        }
        return switch (what) {
            case 0 -> holder.sender;
            case 1 -> holder.stamp.sum();
            case 2 -> holder.stamp.known.size();
            case 3 -> holder.stamp.knots();
            default -> BAD_VALUE;
        };
    }

    int height(int kind, int number, int cell) {
        if (!isKind(kind)) {
            return BAD_VALUE;
        }
        return holder(kind, number) == null || cell < 0 || cell > 15 ? NO_SUCH : holder(kind, number).stamp.heights.get(cell);
    }

    int knows(int kind, int number, int event) {
        if (!isKind(kind)) {
            return BAD_VALUE;
        }
        if (holder(kind, number) == null || event < 0 || event >= now.actors.size()) {
            return NO_SUCH;
        }
        return holder(kind, number).stamp.known.contains(event) ? 1 : 0;
    }

    int count(int what) {
        return switch (what) {
            case 0 -> now.helpers.keySet().stream().mapToInt(number -> 1 << number).sum();
            case 1 -> now.messages.size();
            case 2 -> now.actors.size();
            case 3 -> clashes();
            case 4 -> now.helpers.values().stream().mapToInt(helper -> helper.stamp.knots()).sum();
            case 5 -> foremost();
            case 6 -> pad.length();
            case 7 -> history.size();
            default -> BAD_VALUE;
        };
    }

    private int clashes() {
        int ordered = 0;
        for (Holder one : now.helpers.values()) {
            for (Holder other : now.helpers.values()) {
                ordered += one.stamp.orderTo(other.stamp) == 3 ? 1 : 0;
            }
        }
        return ordered / 2;
    }

    private int foremost() {
        for (int number : now.helpers.keySet()) {
            boolean all = now.helpers.values().stream().allMatch(other -> other.stamp.isNowhereAbove(helper(number).stamp));
            if (all) {
                return number;
            }
        }
        return NONE;
    }

    int whose(int event) {
        return event < 0 || event >= now.actors.size() ? NO_SUCH : now.actors.get(event);
    }

    int order(int kind, int number, int otherKind, int other) {
        if (!isKind(kind) || !isKind(otherKind)) {
            return BAD_VALUE;
        }
        if (holder(kind, number) == null || holder(otherKind, other) == null) {
            return NO_SUCH;
        }
        return holder(kind, number).stamp.orderTo(holder(otherKind, other).stamp);
    }

    int more(int kind, int number, int otherKind, int other) {
        int errorOfOrder = order(kind, number, otherKind, other);
        if (errorOfOrder < 0) {
            return errorOfOrder;
        }
        return holder(kind, number).stamp.moreThan(holder(otherKind, other).stamp);
    }

    int orderToPad(int helper) {
        if (helper(helper) == null) {
            return NO_SUCH;
        }
        Stamp stamp = new Stamp();
        try {
            readAll(stamp.heights);
        } catch (Fault fault) {
            return BAD_TEXT;
        }
        return helper(helper).stamp.orderTo(stamp);
    }

    int printed(int helper, int place) {
        if (helper(helper) == null) {
            return NO_SUCH;
        }
        String text = helper(helper).stamp.text();
        return place < 0 || place >= text.length() ? NO_SUCH : text.charAt(place);
    }

    String textOf(int helper) {
        return helper(helper) == null ? "" : helper(helper).stamp.text();
    }

    int ifReceive(int helper, int message, int what) {
        if (helper(helper) == null || message(message) == null) {
            return NO_SUCH;
        }
        Holder behind = helper(helper).copy();
        behind.stamp.takeOver(message(message).stamp);
        behind.happen(1000);
        return switch (what) {
            case 0 -> behind.stamp.known.size() - helper(helper).stamp.known.size();
            case 1 -> behind.stamp.orderTo(message(message).stamp);
            case 2 -> behind.stamp.knots();
            default -> BAD_VALUE;
        };
    }

    int laggard(int what) {
        if (what < 0 || what > 1) {
            return BAD_VALUE;
        }
        int found = NONE;
        int most = -1;
        for (int number : now.helpers.keySet()) {
            int missed = now.actors.size() - helper(number).stamp.known.size();
            if (missed > most) {
                most = missed;
                found = number;
            }
        }
        return what == 0 ? found : most;
    }

    int put(long characters) {
        StringBuilder added = new StringBuilder();
        boolean ended = false;
        for (int i = 0; i < 8; i++) {
            int code = (int) (characters >>> 8 * i & 255);
            if (code == 0) {
                ended = true;
            } else if (ended || code < 33 || code > 126) {
                return BAD_VALUE;
            } else {
                added.insert(0, (char) code);
            }
        }
        if (added.length() == 0) {
            return BAD_VALUE;
        }
        if (pad.length() + added.length() > 64) {
            return TOO_MANY;
        }
        pad += added;
        return pad.length();
    }

    int wipe() {
        int length = pad.length();
        pad = "";
        return length;
    }

    int fault() {
        try {
            readAll(new ArrayList<>());
            return NONE;
        } catch (Fault fault) {
            return fault.place;
        }
    }

    private void readAll(List<Integer> heights) throws Fault {
        int end = readTree(0, 16, heights);
        if (end < pad.length()) {
            throw new Fault(end);
        }
    }

    private int readTree(int place, int size, List<Integer> heights) throws Fault {
        if (size > 1 && pad.startsWith("(", place)) {
            int comma = readTree(place + 1, size / 2, heights);
            need(",", comma);
            int closing = readTree(comma + 1, size / 2, heights);
            need(")", closing);
            return closing + 1;
        }
        int end = place;
        while (end < pad.length() && Character.isDigit(pad.charAt(end)) && NUMBERS.contains(pad.substring(place, end + 1))) {
            end++;
        }
        boolean isDigit = end < pad.length() && Character.isDigit(pad.charAt(end));
        if (end == place || isDigit) {
            throw new Fault(end);
        }
        for (int cell = 0; cell < size; cell++) {
            heights.add(Integer.parseInt(pad.substring(place, end)));
        }
        return end;
    }

    private void need(String sign, int place) throws Fault {
        if (!pad.startsWith(sign, place)) {
            throw new Fault(place);
        }
    }

    int undo() {
        if (history.isEmpty()) {
            return NOT_POSSIBLE;
        }
        now = history.removeLast();
        return history.size();
    }

    int save(int slot) {
        if (slot < 0 || slot > 1) {
            return BAD_VALUE;
        }
        slots[slot] = now.copy();
        return now.actors.size();
    }

    int restore(int slot) {
        if (slot < 0 || slot > 1) {
            return BAD_VALUE;
        }
        if (slots[slot] == null) {
            return NOT_POSSIBLE;
        }
        change();
        now = slots[slot].copy();
        return now.actors.size();
    }
}
