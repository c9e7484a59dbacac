/**
 * Stamps that tell which of two states of some helpers knew more.
 * What each call does and answers stands in DOC.md, promise by promise.
 */
public final class ForkedStamps {
    public static final int NO_SUCH = -1, BAD_VALUE = -2, BAD_TEXT = -3, TOO_MANY = -4, NOT_POSSIBLE = -5, NONE = -6;
    public static final int SAME = 0, BEFORE = 1, BEHIND = 2, CLASH = 3;

    private static final int CELLS = 16, ALL_CELLS = 0xFFFF;
    private static final int HELPERS = 8, MESSAGES = 8, EVENTS = 120;
    private static final int PAD_LENGTH = 64, GREATEST_NUMBER = 250;
    private static final int FIRST_CODE = 33, LAST_CODE = 126, CODES_IN_A_LONG = 8;
    private static final int HISTORY = 6, SLOTS = 2;
    private static final int OF_HELPER = 0, OF_MESSAGE = 1;

    private final State now = new State();
    private final State[] history = new State[HISTORY];
    private int historyCount;
    private final State[] slots = new State[SLOTS];
    private final boolean[] saved = new boolean[SLOTS];
    private final Pad pad = new Pad();
    // Rows that are used again by every call, so that no call makes new ones.
    private final Stamp trial = new Stamp();
    private final StringBuilder text = new StringBuilder();

    public ForkedStamps() {
        for (int i = 0; i < HISTORY; i++) {
            history[i] = new State();
        }
        for (int i = 0; i < SLOTS; i++) {
            slots[i] = new State();
        }
        now.shares[0] = ALL_CELLS;
    }

    // ---- changes

    public int fork(int helper) {
        if (!now.isHelper(helper)) {
            return NO_SUCH;
        }
        int joining = now.lowestFreeHelper();
        if (joining == NONE) {
            return TOO_MANY;
        }
        if (Integer.bitCount(now.shares[helper]) == 1) {
            return NOT_POSSIBLE;
        }
        remember();
        now.split(helper, joining);
        return joining;
    }

    public int gather(int helper, int by) {
        if (!now.isHelper(helper) || !now.isHelper(by)) {
            return NO_SUCH;
        }
        if (helper == by) {
            return BAD_VALUE;
        }
        remember();
        now.merge(helper, by);
        return Integer.bitCount(now.shares[by]);
    }

    public int event(int helper) {
        if (!now.isHelper(helper)) {
            return NO_SUCH;
        }
        if (now.eventCount >= EVENTS) {
            return TOO_MANY;
        }
        remember();
        return now.addEvent(helper);
    }

    public int send(int helper) {
        if (!now.isHelper(helper)) {
            return NO_SUCH;
        }
        if (now.messageCount >= MESSAGES) {
            return TOO_MANY;
        }
        remember();
        return now.addMessage(helper);
    }

    public int receive(int helper, int message) {
        if (!now.isHelper(helper) || !now.isMessage(message)) {
            return NO_SUCH;
        }
        if (now.eventCount >= EVENTS) {
            return TOO_MANY;
        }
        remember();
        now.helpers[helper].takeOver(now.messages[message]);
        return now.addEvent(helper);
    }

    public int drop(int message) {
        if (!now.isMessage(message)) {
            return NO_SUCH;
        }
        remember();
        now.removeMessage(message);
        return now.messageCount;
    }

    // ---- what there is

    public int of(int helper, int what) {
        if (!now.isHelper(helper)) {
            return NO_SUCH;
        }
        Stamp stamp = now.helpers[helper];
        switch (what) {
            case 0: return now.shares[helper];
            case 1: return Integer.bitCount(now.shares[helper]);
            case 2: return stamp.greatestIn(ALL_CELLS);
            case 3: return stamp.sum();
            case 4: return stamp.knownCount();
            case 5: return stamp.latestKnown();
            case 6: return stamp.knots();
            case 7: return textOf(stamp).length();
            default: return BAD_VALUE;
        }
    }

    public int ofMessage(int message, int what) {
        if (!now.isMessage(message)) {
            return NO_SUCH;
        }
        Stamp stamp = now.messages[message];
        switch (what) {
            case 0: return now.senders[message];
            case 1: return stamp.sum();
            case 2: return stamp.knownCount();
            case 3: return stamp.knots();
            default: return BAD_VALUE;
        }
    }

    public int height(int kind, int number, int cell) {
        if (!isKind(kind)) {
            return BAD_VALUE;
        }
        Stamp stamp = now.stampOf(kind, number);
        if (stamp == null || cell < 0 || cell >= CELLS) {
            return NO_SUCH;
        }
        return stamp.heights[cell];
    }

    public int knows(int kind, int number, int event) {
        if (!isKind(kind)) {
            return BAD_VALUE;
        }
        Stamp stamp = now.stampOf(kind, number);
        if (stamp == null || !now.isEvent(event)) {
            return NO_SUCH;
        }
        return stamp.isKnown(event) ? 1 : 0;
    }

    public int count(int what) {
        switch (what) {
            case 0: return now.helperSet();
            case 1: return now.messageCount;
            case 2: return now.eventCount;
            case 3: return now.clashingPairs();
            case 4: return now.knotsOfHelpers();
            case 5: return now.foremost();
            case 6: return pad.length;
            case 7: return historyCount;
            default: return BAD_VALUE;
        }
    }

    public int whose(int event) {
        return now.isEvent(event) ? now.actors[event] : NO_SUCH;
    }

    // ---- orders; nothing changes

    public int order(int kind, int number, int otherKind, int other) {
        if (!isKind(kind) || !isKind(otherKind)) {
            return BAD_VALUE;
        }
        Stamp one = now.stampOf(kind, number);
        Stamp another = now.stampOf(otherKind, other);
        if (one == null || another == null) {
            return NO_SUCH;
        }
        return one.orderTo(another);
    }

    public int more(int kind, int number, int otherKind, int other) {
        if (!isKind(kind) || !isKind(otherKind)) {
            return BAD_VALUE;
        }
        Stamp one = now.stampOf(kind, number);
        Stamp another = now.stampOf(otherKind, other);
        if (one == null || another == null) {
            return NO_SUCH;
        }
        return one.knownBeyond(another);
    }

    public int orderToPad(int helper) {
        if (!now.isHelper(helper)) {
            return NO_SUCH;
        }
        if (pad.read() != NONE) {
            return BAD_TEXT;
        }
        return now.helpers[helper].orderTo(pad.stamp);
    }

    public int printed(int helper, int place) {
        if (!now.isHelper(helper)) {
            return NO_SUCH;
        }
        StringBuilder stampText = textOf(now.helpers[helper]);
        if (place < 0 || place >= stampText.length()) {
            return NO_SUCH;
        }
        return stampText.charAt(place);
    }

    // ---- what if; nothing changes

    public int ifReceive(int helper, int message, int what) {
        if (!now.isHelper(helper) || !now.isMessage(message)) {
            return NO_SUCH;
        }
        Stamp own = now.helpers[helper];
        Stamp received = now.messages[message];
        trial.become(own);
        trial.takeOver(received);
        trial.raise(now.shares[helper]);
        switch (what) {
            case 0: return received.knownBeyond(own) + 1;
            case 1: return trial.orderTo(received);
            case 2: return trial.knots();
            default: return BAD_VALUE;
        }
    }

    public int laggard(int what) {
        if (what != 0 && what != 1) {
            return BAD_VALUE;
        }
        int helper = now.leastKnowing();
        return what == 0 ? helper : now.eventCount - now.helpers[helper].knownCount();
    }

    // ---- texts

    public int put(long characters) {
        int amount = charactersIn(characters);
        if (amount == 0) {
            return BAD_VALUE;
        }
        if (amount > PAD_LENGTH - pad.length) {
            return TOO_MANY;
        }
        pad.append(characters, amount);
        return pad.length;
    }

    public int wipe() {
        int length = pad.length;
        pad.length = 0;
        return length;
    }

    public int fault() {
        return pad.read();
    }

    // ---- undo, saving

    public int undo() {
        if (historyCount <= 0) {
            return NOT_POSSIBLE;
        }
        historyCount--;
        now.become(history[historyCount]);
        return historyCount;
    }

    public int save(int slot) {
        if (!isSlot(slot)) {
            return BAD_VALUE;
        }
        slots[slot].become(now);
        saved[slot] = true;
        return now.eventCount;
    }

    public int restore(int slot) {
        if (!isSlot(slot)) {
            return BAD_VALUE;
        }
        if (!saved[slot]) {
            return NOT_POSSIBLE;
        }
        remember();
        now.become(slots[slot]);
        return now.eventCount;
    }

    private static boolean isKind(int kind) {
        return kind == OF_HELPER || kind == OF_MESSAGE;
    }

    private static boolean isSlot(int slot) {
        return slot >= 0 && slot < SLOTS;
    }

    private void remember() {
        if (historyCount >= HISTORY) {
            forgetOldest();
        }
        history[historyCount].become(now);
        historyCount++;
    }

    private void forgetOldest() {
        State oldest = history[0];
        for (int i = 1; i < HISTORY; i++) {
            history[i - 1] = history[i];
        }
        // The forgotten state's rows serve for the next one.
        history[HISTORY - 1] = oldest;
        historyCount = HISTORY - 1;
    }

    private StringBuilder textOf(Stamp stamp) {
        text.setLength(0);
        stamp.print(text);
        return text;
    }

    /** Returns how many characters a number holds, 0 if it is none of characters. */
    private static int charactersIn(long characters) {
        long rest = characters;
        int amount = 0;
        while (rest != 0 && amount < CODES_IN_A_LONG) {
            int code = (int) (rest & 255);
            if (code < FIRST_CODE || code > LAST_CODE) {
                return 0;
            }
            rest >>>= 8;
            amount++;
        }
        return amount;
    }

    /** The heights of all cells, and the events that are known with them. */
    private static final class Stamp {
        // 120 events are more than the bits of one long.
        private static final int EARLY_EVENTS = 64;

        final int[] heights = new int[CELLS];
        private long knownEarly;
        private long knownLate;

        void become(Stamp other) {
            System.arraycopy(other.heights, 0, heights, 0, CELLS);
            knownEarly = other.knownEarly;
            knownLate = other.knownLate;
        }

        void takeOver(Stamp other) {
            for (int cell = 0; cell < CELLS; cell++) {
                heights[cell] = Math.max(heights[cell], other.heights[cell]);
            }
            knownEarly |= other.knownEarly;
            knownLate |= other.knownLate;
        }

        void raise(int share) {
            int greatest = greatestIn(share);
            int raised = isLevel(share, greatest) ? greatest + 1 : greatest;
            for (int cell = 0; cell < CELLS; cell++) {
                if (isIn(share, cell)) {
                    heights[cell] = raised;
                }
            }
        }

        private boolean isLevel(int share, int height) {
            for (int cell = 0; cell < CELLS; cell++) {
                if (isIn(share, cell) && heights[cell] != height) {
                    return false;
                }
            }
            return true;
        }

        int greatestIn(int share) {
            int greatest = 0;
            for (int cell = 0; cell < CELLS; cell++) {
                if (isIn(share, cell)) {
                    greatest = Math.max(greatest, heights[cell]);
                }
            }
            return greatest;
        }

        int sum() {
            int sum = 0;
            for (int height : heights) {
                sum += height;
            }
            return sum;
        }

        int orderTo(Stamp other) {
            boolean someLess = false;
            boolean someGreater = false;
            for (int cell = 0; cell < CELLS; cell++) {
                if (heights[cell] < other.heights[cell]) {
                    someLess = true;
                } else if (heights[cell] > other.heights[cell]) {
                    someGreater = true;
                }
            }
            if (someLess) {
                return someGreater ? CLASH : BEFORE;
            }
            return someGreater ? BEHIND : SAME;
        }

        void learn(int event) {
            if (event < EARLY_EVENTS) {
                knownEarly |= 1L << event;
            } else {
                knownLate |= 1L << (event - EARLY_EVENTS);
            }
        }

        boolean isKnown(int event) {
            long known = event < EARLY_EVENTS ? knownEarly >>> event : knownLate >>> (event - EARLY_EVENTS);
            return (known & 1) == 1;
        }

        int knownCount() {
            return Long.bitCount(knownEarly) + Long.bitCount(knownLate);
        }

        int knownBeyond(Stamp other) {
            return Long.bitCount(knownEarly & ~other.knownEarly) + Long.bitCount(knownLate & ~other.knownLate);
        }

        int latestKnown() {
            for (int event = EVENTS - 1; event >= 0; event--) {
                if (isKnown(event)) {
                    return event;
                }
            }
            return NONE;
        }

        int knots() {
            return knotsOfRow(heights, 0, CELLS);
        }

        void print(StringBuilder to) {
            printRow(heights, 0, CELLS, to);
        }

        private static boolean isIn(int share, int cell) {
            return ((share >> cell) & 1) == 1;
        }

        // The size of the row is the guard of the recursion: it is halved down to 1.
        private static int knotsOfRow(int[] heights, int first, int size) {
            if (size <= 1 || isLeaf(heights, first, size)) {
                return 0;
            }
            int half = size / 2;
            return 1 + knotsOfRow(heights, first, half) + knotsOfRow(heights, first + half, half);
        }

        // The size of the row is the guard of the recursion: it is halved down to 1.
        private static void printRow(int[] heights, int first, int size, StringBuilder to) {
            if (size <= 1 || isLeaf(heights, first, size)) {
                to.append(heights[first]);
                return;
            }
            int half = size / 2;
            to.append('(');
            printRow(heights, first, half, to);
            to.append(',');
            printRow(heights, first + half, half, to);
            to.append(')');
        }

        private static boolean isLeaf(int[] heights, int first, int size) {
            for (int cell = first + 1; cell < first + size; cell++) {
                if (heights[cell] != heights[first]) {
                    return false;
                }
            }
            return true;
        }
    }

    /** All that undo brings back and that a slot keeps. */
    private static final class State {
        // A helper is there if its share has a cell.
        final int[] shares = new int[HELPERS];
        final Stamp[] helpers = new Stamp[HELPERS];
        final Stamp[] messages = new Stamp[MESSAGES];
        final int[] senders = new int[MESSAGES];
        int messageCount;
        final int[] actors = new int[EVENTS];
        int eventCount;

        State() {
            for (int i = 0; i < HELPERS; i++) {
                helpers[i] = new Stamp();
            }
            for (int i = 0; i < MESSAGES; i++) {
                messages[i] = new Stamp();
            }
        }

        void become(State other) {
            System.arraycopy(other.shares, 0, shares, 0, HELPERS);
            for (int i = 0; i < HELPERS; i++) {
                helpers[i].become(other.helpers[i]);
            }
            System.arraycopy(other.senders, 0, senders, 0, MESSAGES);
            for (int i = 0; i < MESSAGES; i++) {
                messages[i].become(other.messages[i]);
            }
            messageCount = other.messageCount;
            System.arraycopy(other.actors, 0, actors, 0, EVENTS);
            eventCount = other.eventCount;
        }

        boolean isHelper(int number) {
            return number >= 0 && number < HELPERS && shares[number] != 0;
        }

        boolean isMessage(int number) {
            return number >= 0 && number < messageCount;
        }

        boolean isEvent(int number) {
            return number >= 0 && number < eventCount;
        }

        /** Returns the stamp of a helper or a message, null if there is no such one. */
        Stamp stampOf(int kind, int number) {
            if (kind == OF_HELPER) {
                return isHelper(number) ? helpers[number] : null;
            }
            return isMessage(number) ? messages[number] : null;
        }

        int lowestFreeHelper() {
            for (int helper = 0; helper < HELPERS; helper++) {
                if (!isHelper(helper)) {
                    return helper;
                }
            }
            return NONE;
        }

        void split(int helper, int joining) {
            int share = shares[helper];
            int staying = (Integer.bitCount(share) + 1) / 2;
            int stayingShare = lowestCells(share, staying);
            shares[helper] = stayingShare;
            shares[joining] = share & ~stayingShare;
            helpers[joining].become(helpers[helper]);
        }

        private static int lowestCells(int share, int amount) {
            int taken = 0;
            for (int cell = 0; cell < CELLS; cell++) {
                if (Integer.bitCount(taken) < amount) {
                    taken |= share & (1 << cell);
                }
            }
            return taken;
        }

        void merge(int helper, int by) {
            helpers[by].takeOver(helpers[helper]);
            shares[by] |= shares[helper];
            shares[helper] = 0;
        }

        int addEvent(int helper) {
            int event = eventCount;
            helpers[helper].raise(shares[helper]);
            helpers[helper].learn(event);
            actors[event] = helper;
            eventCount++;
            return event;
        }

        int addMessage(int helper) {
            int message = messageCount;
            messages[message].become(helpers[helper]);
            senders[message] = helper;
            messageCount++;
            return message;
        }

        void removeMessage(int message) {
            for (int i = message + 1; i < messageCount; i++) {
                messages[i - 1].become(messages[i]);
                senders[i - 1] = senders[i];
            }
            messageCount--;
        }

        int helperSet() {
            int set = 0;
            for (int helper = 0; helper < HELPERS; helper++) {
                if (isHelper(helper)) {
                    set |= 1 << helper;
                }
            }
            return set;
        }

        int clashingPairs() {
            int pairs = 0;
            for (int one = 0; one < HELPERS; one++) {
                for (int other = one + 1; other < HELPERS; other++) {
                    if (isHelper(one) && isHelper(other) && helpers[one].orderTo(helpers[other]) == CLASH) {
                        pairs++;
                    }
                }
            }
            return pairs;
        }

        int knotsOfHelpers() {
            int knots = 0;
            for (int helper = 0; helper < HELPERS; helper++) {
                if (isHelper(helper)) {
                    knots += helpers[helper].knots();
                }
            }
            return knots;
        }

        int foremost() {
            for (int helper = 0; helper < HELPERS; helper++) {
                if (isHelper(helper) && isForemost(helper)) {
                    return helper;
                }
            }
            return NONE;
        }

        private boolean isForemost(int helper) {
            for (int other = 0; other < HELPERS; other++) {
                if (isHelper(other)) {
                    int order = helpers[other].orderTo(helpers[helper]);
                    if (order == BEHIND || order == CLASH) {
                        return false;
                    }
                }
            }
            return true;
        }

        int leastKnowing() {
            int least = 0;
            int fewest = EVENTS + 1;
            for (int helper = 0; helper < HELPERS; helper++) {
                if (isHelper(helper) && helpers[helper].knownCount() < fewest) {
                    least = helper;
                    fewest = helpers[helper].knownCount();
                }
            }
            return least;
        }
    }

    /** The pad, and its reading as a stamp, from left to right. */
    private static final class Pad {
        private static final int TREE_IS_DUE = 0, IN_NUMBER = 1, TREE_HAS_ENDED = 2;

        final char[] characters = new char[PAD_LENGTH];
        final Stamp stamp = new Stamp();
        int length;
        // The row of cells of the tree where the reading stands.
        private int first;
        private int size;
        private int stage;
        private int number;

        void append(long added, int amount) {
            for (int i = amount - 1; i >= 0 && length < PAD_LENGTH; i--) {
                characters[length] = (char) ((added >>> (8 * i)) & 255);
                length++;
            }
        }

        /** Puts the pad's text into the stamp; returns its fault, NONE if there is none. */
        int read() {
            first = 0;
            size = CELLS;
            stage = TREE_IS_DUE;
            for (int i = 0; i < length; i++) {
                if (!accepts(characters[i])) {
                    return i;
                }
            }
            return size == CELLS && stage != TREE_IS_DUE ? NONE : length;
        }

        private boolean accepts(char character) {
            if (character >= '0' && character <= '9') {
                return acceptsDigit(character - '0');
            }
            if (character == '(') {
                return acceptsOpening();
            }
            if (character == ',') {
                return acceptsComma();
            }
            return character == ')' && acceptsClosing();
        }

        private boolean acceptsDigit(int digit) {
            if (stage == TREE_HAS_ENDED || (stage == IN_NUMBER && number == 0)) {
                return false;
            }
            int longer = stage == IN_NUMBER ? number * 10 + digit : digit;
            if (longer > GREATEST_NUMBER) {
                return false;
            }
            stage = IN_NUMBER;
            number = longer;
            fillRow();
            return true;
        }

        private void fillRow() {
            for (int cell = first; cell < first + size && cell < CELLS; cell++) {
                stamp.heights[cell] = number;
            }
        }

        private boolean acceptsOpening() {
            if (stage != TREE_IS_DUE || size == 1) {
                return false;
            }
            size /= 2;
            return true;
        }

        private boolean acceptsComma() {
            if (stage == TREE_IS_DUE || size == CELLS || isUpperHalf()) {
                return false;
            }
            first += size;
            stage = TREE_IS_DUE;
            return true;
        }

        private boolean acceptsClosing() {
            if (stage == TREE_IS_DUE || size == CELLS || !isUpperHalf()) {
                return false;
            }
            first -= size;
            size *= 2;
            stage = TREE_HAS_ENDED;
            return true;
        }

        // A row begins at a multiple of its size, an odd one where it is an upper half.
        private boolean isUpperHalf() {
            return (first & size) != 0;
        }
    }
}
