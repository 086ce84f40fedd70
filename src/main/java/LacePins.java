import java.util.Arrays;

/** Prickings for lace, as the document ../shared/DOC.md promises them. */
public final class LacePins {
    public static final int NONE = -1, BAD = -2, STATE = -3, FULL = -4;
    public static final long NO = Long.MIN_VALUE;

    private static final int NOT_ANY = -5, NOTHING = -11, BEYOND = -13, BELOW = -14;
    private static final int FAULT_BASE = -100, UNFIT_BASE = -300;

    private static final int LEAST_SLOTS = 2, MOST_SLOTS = 12, SLOTS_AT_FIRST = 6;
    private static final int MOST_PINS = 30, MOST_TURNS = 10, ROWS = 100;
    private static final int CROSS = 0, TWIST = 1, HALF = 2, CLOTH = 3, STITCHES = 5;
    private static final int MOST_IN_THOUGHT = 12;
    private static final int MOST_SIGNS = 120;
    private static final int LISTS = 4, LONGEST_LIST = 30;

    private final Pattern pattern = new Pattern();
    private final Bench bench = new Bench();
    private final Pattern imagePattern = new Pattern();
    private final Bench imageBench = new Bench();
    private boolean imageTaken = false;

    private final Pattern untold = new Pattern();
    private final Needs needed = new Needs();
    private final Thought thought = new Thought();
    private final Joins joins = new Joins();
    private final Tape tape = new Tape();
    private final Rows rows = new Rows();
    private final int[] paperSigns = new int[MOST_SLOTS];
    private int paperLength = 0;

    public LacePins() {
        pattern.begin(SLOTS_AT_FIRST);
        bench.begin(SLOTS_AT_FIRST);
    }

    // ---- the pricking

    public int loom(int w) {
        if (w < LEAST_SLOTS || w > MOST_SLOTS) return BAD;
        int was = pattern.slots;
        pattern.begin(w);
        bench.begin(w);
        return was;
    }

    public int pin(int row, int slot, int stitch) {
        if (!isRow(row) || !pattern.isPinSlot(slot) || !isStitch(stitch)) return BAD;
        if (anyDone()) return STATE;
        return pattern.addPin(row, slot, stitch);
    }

    public int drop() {
        if (anyDone() || pattern.pinCount == 0) return STATE;
        pattern.pinCount--;
        return pattern.pinCount;
    }

    public int stitch(int pin, int stitch) {
        if (!pattern.isPin(pin)) return NONE;
        if (!isStitch(stitch)) return BAD;
        if (anyDone()) return STATE;
        int was = pattern.pinStitch[pin];
        pattern.pinStitch[pin] = stitch;
        return was;
    }

    public int of(int pin, int what) {
        if (!pattern.isPin(pin)) return NONE;
        switch (what) {
            case 0: return pattern.pinRow[pin];
            case 1: return pattern.pinSlot[pin];
            case 2: return pattern.pinStitch[pin];
            case 3: return bench.isDone(pin) ? 1 : 0;
            case 4: return depthOf(pin);
            case 5: return pattern.lacksPair(pin) ? 1 : 0;
            default: return NONE;
        }
    }

    public int fill(int slot, boolean is) {
        if (!pattern.isSlot(slot)) return NONE;
        if (anyDone()) return STATE;
        return pattern.fillAtFirst(slot, is);
    }

    public int turn(int slot, int row) {
        if (!pattern.isSlot(slot)) return NONE;
        if (!isRow(row)) return BAD;
        if (anyDone()) return STATE;
        return pattern.turnAt(slot, row);
    }

    public int filled(int slot, int row) {
        if (!pattern.isSlot(slot)) return NONE;
        if (!isRow(row)) return BAD;
        return pattern.isFilled(slot, row) ? 1 : 0;
    }

    public int mirror() {
        if (anyDone()) return STATE;
        pattern.flip();
        return pattern.pinCount;
    }

    public int even() {
        return pattern.isEven() ? 1 : 0;
    }

    // ---- what needs what

    public long needs(int pin, int what) {
        if (!pattern.isPin(pin)) return NO;
        needed.study(pattern);
        switch (what) {
            case 0: return needed.direct[pin];
            case 1: return needed.all[pin];
            case 2: return needed.neededBy(pin, pattern.pinCount);
            default: return NO;
        }
    }

    public long pins(int what) {
        switch (what) {
            case 0: return lackingPins();
            case 1: return readyPins();
            case 2: return bench.done;
            default: return NO;
        }
    }

    public int deepest() {
        if (pattern.pinCount == 0) return NOT_ANY;
        needed.study(pattern);
        int greatest = 0;
        for (int p = 0; p < pattern.pinCount; p++) greatest = Math.max(greatest, needed.depth[p]);
        return greatest;
    }

    // ---- work

    public int work(int pin) {
        if (!pattern.isPin(pin)) return NONE;
        if (!hasPin(readyPins(), pin)) return STATE;
        workOne(pin);
        return bench.workedCount;
    }

    public int workAll() {
        int worked = 0;
        for (int i = 0; i < MOST_PINS; i++) {
            int pin = pattern.uppermost(readyPins());
            if (pin < 0) break;
            workOne(pin);
            worked++;
        }
        return worked;
    }

    public int undo() {
        if (!anyDone()) return STATE;
        int pin = bench.lastWorked();
        bench.unwork(pin, pattern.pinSlot[pin], pattern.pinStitch[pin]);
        return bench.workedCount;
    }

    public int thread(int slot, int side) {
        if (!pattern.isSlot(slot) || side < 0 || side > 1) return NONE;
        return bench.threadAt[2 * slot + side];
    }

    public int where(int thread) {
        if (!isThread(thread)) return NONE;
        for (int place = 0; place < 2 * pattern.slots; place++) {
            if (bench.threadAt[place] == thread) return place;
        }
        return NONE;
    }

    public int overs(int thread) {
        return isThread(thread) ? bench.wentOver[thread] : NONE;
    }

    public int acts(int what) {
        if (what < 0 || what > 1) return NONE;
        int together = 0;
        for (int p = 0; p < pattern.pinCount; p++) {
            if (bench.isDone(p)) together += actsOf(pattern.pinStitch[p], what == 0);
        }
        return together;
    }

    public int hand(int slot) {
        if (!pattern.isSlot(slot)) return NONE;
        int was = bench.handSlot;
        bench.handSlot = slot;
        return was;
    }

    // ---- in thought

    public long orders() {
        if (!think()) return STATE;
        return thought.lawfulOrders();
    }

    public int order(long k, int i) {
        if (!think()) return STATE;
        if (i < 0 || i >= thought.count) return NONE;
        if (k < 0 || k >= thought.lawfulOrders()) return NONE;
        return thought.pinOfOrder(k, i);
    }

    public int travel() {
        if (!think()) return STATE;
        if (!thought.lawful) return NOT_ANY;
        return thought.leastTravel(bench.handSlot);
    }

    public int along(int i) {
        if (!think() || !thought.lawful) return STATE;
        if (i < 0 || i >= thought.count) return NONE;
        return thought.pinOfLeast(bench.handSlot, i);
    }

    public int pairs(int what) {
        joins.join(pattern);
        switch (what) {
            case 0: return Integer.bitCount(pattern.filledAtFirst) + joins.hangs - joins.joined;
            case 1: return joins.joined;
            case 2: return joins.apart;
            default: return NONE;
        }
    }

    public int hang(int i, int what) {
        joins.join(pattern);
        if (i < 0 || i >= joins.hangs || what < 0 || what > 1) return NONE;
        if (what == 0) return slotAndRow(joins.hangTurn[i]);
        int out = joins.outOf[i];
        return out < 0 ? NOT_ANY : slotAndRow(joins.outTurn[out]);
    }

    // ---- drafts, seen

    public int draft(int row) {
        if (!isRow(row)) return BAD;
        for (int s = 0; s < pattern.slots; s++) paperSigns[s] = '|';
        for (int p = 0; p < pattern.pinCount; p++) {
            if (pattern.pinRow[p] == row) drawPin(pattern.pinSlot[p]);
        }
        for (int s = 0; s < pattern.slots; s++) {
            if (!pattern.isFilled(s, row)) paperSigns[s] = '.';
        }
        paperLength = pattern.slots;
        return paperLength;
    }

    public int paper(int i) {
        return i < 0 || i >= paperLength ? NONE : paperSigns[i];
    }

    public int lay(int list, int i) {
        if (!rows.isList(list)) return NONE;
        if (!rows.holds(list)) return NOTHING;
        int threads = 2 * pattern.slots;
        if (i < 0) return BEYOND;
        for (int t = 0; t < threads; t++) {
            // t is compared with what is left behind i, for i + t could wrap around
            if (t >= rows.size[list] - i) return BEYOND;
            rows.put(list, i + t, bench.threadAt[t]);
        }
        return threads;
    }

    public int seen(int pin, int list, int i) {
        if (!pattern.isPin(pin) || !rows.isList(list)) return NONE;
        if (!rows.holds(list)) return NOTHING;
        if (i < 0 || 2 * pattern.slots > rows.size[list] - i) return BEYOND;
        if (!hasPin(readyPins(), pin)) return STATE;
        int bits = 0;
        for (int s = 0; s < STITCHES; s++) {
            if (wouldBeSeen(pin, s, list, i)) bits |= 1 << s;
        }
        return bits;
    }

    // ---- texts

    public int feed(int letter) {
        if (letter < 1 || letter > 127) return BAD;
        return tape.append(letter) ? tape.length : FULL;
    }

    public int clear() {
        int had = tape.length;
        tape.length = 0;
        return had;
    }

    public int pricking() {
        tape.read();
        tape.length = 0;
        if (tape.fault >= 0) return FAULT_BASE - tape.fault;
        if (anyDone()) return UNFIT_BASE;
        untold.copyFrom(pattern);
        for (int part = 0; part < tape.parts; part++) {
            if (tellPart(part) < 0) {
                pattern.copyFrom(untold);
                return UNFIT_BASE - part;
            }
        }
        return tape.parts;
    }

    // ---- rows, the image

    public int list(int list, int n) {
        if (!rows.isList(list)) return NONE;
        if (n > LONGEST_LIST) return BAD;
        if (n < 0) return BELOW;
        rows.begin(list, n);
        return 1;
    }

    public int set(int list, int i, long v) {
        if (!rows.isList(list)) return NONE;
        if (!rows.holds(list)) return NOTHING;
        if (!rows.hasPlace(list, i)) return BEYOND;
        rows.put(list, i, v);
        return 1;
    }

    public long get(int list, int i) {
        if (!rows.isList(list) || !rows.hasPlace(list, i)) return NO;
        return rows.at(list, i);
    }

    public int count(int what) {
        switch (what) {
            case 0: return pattern.slots;
            case 1: return pattern.pinCount;
            case 2: return pattern.turnCount;
            case 3: return bench.workedCount;
            case 4: return tape.length;
            case 5: return paperLength;
            case 6: return bench.handSlot;
            case 7: return pattern.turnsInto(true);
            case 8: return pattern.turnsInto(false);
            default: return NONE;
        }
    }

    public int image() {
        imagePattern.copyFrom(pattern);
        imageBench.copyFrom(bench);
        imageTaken = true;
        return pattern.pinCount;
    }

    public int restore() {
        if (!imageTaken) return STATE;
        pattern.copyFrom(imagePattern);
        bench.copyFrom(imageBench);
        return pattern.pinCount;
    }

    // ---- what the calls above share

    private static boolean isRow(int row) {
        return row >= 0 && row < ROWS;
    }

    private static boolean isStitch(int stitch) {
        return stitch >= 0 && stitch < STITCHES;
    }

    private boolean isThread(int thread) {
        return thread >= 0 && thread < 2 * pattern.slots;
    }

    private static long pinBit(int pin) {
        return 1L << pin;
    }

    private static boolean hasPin(long pins, int pin) {
        return (pins & pinBit(pin)) != 0;
    }

    private boolean anyDone() {
        return bench.workedCount > 0;
    }

    private int depthOf(int pin) {
        needed.study(pattern);
        return needed.depth[pin];
    }

    private long lackingPins() {
        long bits = 0;
        for (int p = 0; p < pattern.pinCount; p++) {
            if (pattern.lacksPair(p)) bits |= pinBit(p);
        }
        return bits;
    }

    private long readyPins() {
        needed.study(pattern);
        long held = bench.done | lackingPins();
        long bits = 0;
        for (int p = 0; p < pattern.pinCount; p++) {
            if (!hasPin(held, p) && (needed.all[p] & ~bench.done) == 0) bits |= pinBit(p);
        }
        return bits;
    }

    private void workOne(int pin) {
        bench.workPin(pin, pattern.pinSlot[pin], pattern.pinStitch[pin]);
    }

    /** Takes up the PINS that aren't DONE; false, if they are too many to be thought about. */
    private boolean think() {
        needed.study(pattern);
        return thought.gather(pattern, needed, bench.done, lackingPins());
    }

    private static int slotAndRow(int turn) {
        return 100 * Pattern.slotOfTurn(turn) + Pattern.rowOfTurn(turn);
    }

    private void drawPin(int slot) {
        paperSigns[slot] = '(';
        paperSigns[slot + 1] = ')';
    }

    /** Works the STITCH in earnest and takes it back, so that there is one way only to work. */
    private boolean wouldBeSeen(int pin, int stitch, int list, int i) {
        int slot = pattern.pinSlot[pin];
        bench.workPin(pin, slot, stitch);
        boolean same = true;
        for (int t = 0; t < 2 * pattern.slots; t++) {
            if (rows.at(list, i + t) != bench.threadAt[t]) same = false;
        }
        bench.unwork(pin, slot, stitch);
        return same;
    }

    private int tellPart(int part) {
        int a = tape.first[part], b = tape.second[part];
        switch (tape.kind[part]) {
            case Tape.PIN: return pin(a, b, tape.third[part]);
            case Tape.TURN: return turn(a, b);
            case Tape.EMPTY: return fill(a, false);
            default: return fill(a, true);
        }
    }

    // ---- stitches by acts

    private static int actCount(int stitch) {
        switch (stitch) {
            case CROSS: return 1;
            case TWIST: return 1;
            case HALF: return 2;
            case CLOTH: return 3;
            default: return 4;
        }
    }

    /** C and T take turns, and every STITCH but the twist begins with C. */
    private static boolean isCrossAct(int stitch, int act) {
        return stitch != TWIST && (act & 1) == 0;
    }

    private static int actsOf(int stitch, boolean crosses) {
        int together = 0;
        for (int act = 0; act < actCount(stitch); act++) {
            if (isCrossAct(stitch, act) == crosses) together++;
        }
        return together;
    }

    /** What is told of a pricking: SLOTS, PINS, TURNS, what is FILLED at first. */
    private static final class Pattern {
        private static final int SLOT_BITS = 4, SLOT_MASK = 15;

        private int slots = SLOTS_AT_FIRST;
        private int filledAtFirst = 0;
        private int pinCount = 0;
        private final int[] pinRow = new int[MOST_PINS];
        private final int[] pinSlot = new int[MOST_PINS];
        private final int[] pinStitch = new int[MOST_PINS];
        // each TURN as one number that grows by ROW, then by SLOT; kept in order
        private int turnCount = 0;
        private final int[] turns = new int[MOST_TURNS];

        void begin(int w) {
            slots = w;
            filledAtFirst = (1 << w) - 1;
            pinCount = 0;
            turnCount = 0;
        }

        void copyFrom(Pattern other) {
            slots = other.slots;
            filledAtFirst = other.filledAtFirst;
            pinCount = other.pinCount;
            System.arraycopy(other.pinRow, 0, pinRow, 0, MOST_PINS);
            System.arraycopy(other.pinSlot, 0, pinSlot, 0, MOST_PINS);
            System.arraycopy(other.pinStitch, 0, pinStitch, 0, MOST_PINS);
            turnCount = other.turnCount;
            System.arraycopy(other.turns, 0, turns, 0, MOST_TURNS);
        }

        boolean isSlot(int slot) {
            return slot >= 0 && slot < slots;
        }

        boolean isPinSlot(int slot) {
            return slot >= 0 && slot < slots - 1;
        }

        boolean isPin(int pin) {
            return pin >= 0 && pin < pinCount;
        }

        int addPin(int row, int slot, int stitch) {
            for (int p = 0; p < pinCount; p++) {
                if (pinRow[p] == row && Math.abs(pinSlot[p] - slot) <= 1) return STATE;
            }
            if (pinCount >= MOST_PINS) return FULL;
            pinRow[pinCount] = row;
            pinSlot[pinCount] = slot;
            pinStitch[pinCount] = stitch;
            pinCount++;
            return pinCount - 1;
        }

        int fillAtFirst(int slot, boolean is) {
            int was = filledAtFirst >> slot & 1;
            if (is) filledAtFirst |= 1 << slot;
            else filledAtFirst &= ~(1 << slot);
            return was;
        }

        static int turnNumber(int slot, int row) {
            return row << SLOT_BITS | slot;
        }

        static int slotOfTurn(int turn) {
            return turn & SLOT_MASK;
        }

        static int rowOfTurn(int turn) {
            return turn >> SLOT_BITS;
        }

        int turnAt(int slot, int row) {
            int turn = turnNumber(slot, row);
            int place = placeOfTurn(turn);
            if (place >= 0) {
                removeTurn(place);
            } else {
                if (turnCount >= MOST_TURNS) return FULL;
                turns[turnCount] = turn;
                turnCount++;
                sortTurns();
            }
            return turnCount;
        }

        private int placeOfTurn(int turn) {
            for (int t = 0; t < turnCount; t++) {
                if (turns[t] == turn) return t;
            }
            return -1;
        }

        private void removeTurn(int place) {
            for (int t = place; t < turnCount - 1; t++) turns[t] = turns[t + 1];
            turnCount--;
        }

        private void sortTurns() {
            for (int i = 1; i < turnCount; i++) {
                int turn = turns[i];
                int to = i;
                while (to > 0 && turns[to - 1] > turn) {
                    turns[to] = turns[to - 1];
                    to--;
                }
                turns[to] = turn;
            }
        }

        boolean isFilled(int slot, int row) {
            boolean is = (filledAtFirst >> slot & 1) == 1;
            for (int t = 0; t < turnCount; t++) {
                if (slotOfTurn(turns[t]) == slot && rowOfTurn(turns[t]) <= row) is = !is;
            }
            return is;
        }

        /** Whether its SLOT becomes FILLED by the TURN at a place. */
        boolean turnsFull(int place) {
            return isFilled(slotOfTurn(turns[place]), rowOfTurn(turns[place]));
        }

        int turnsInto(boolean full) {
            int many = 0;
            for (int t = 0; t < turnCount; t++) {
                if (turnsFull(t) == full) many++;
            }
            return many;
        }

        boolean lacksPair(int pin) {
            int slot = pinSlot[pin], row = pinRow[pin];
            return !isFilled(slot, row) || !isFilled(slot + 1, row);
        }

        /** Of some PINS that of the least ROW, of like ones of the least SLOT; -1 of none. */
        int uppermost(long pins) {
            int best = -1;
            for (int p = 0; p < pinCount; p++) {
                if (hasPin(pins, p) && (best < 0 || isAbove(p, best))) best = p;
            }
            return best;
        }

        private boolean isAbove(int p, int q) {
            return pinRow[p] < pinRow[q] || pinRow[p] == pinRow[q] && pinSlot[p] < pinSlot[q];
        }

        private int flippedFill() {
            int bits = 0;
            for (int s = 0; s < slots; s++) {
                if ((filledAtFirst >> s & 1) == 1) bits |= 1 << slots - 1 - s;
            }
            return bits;
        }

        private int flippedTurn(int turn) {
            return turnNumber(slots - 1 - slotOfTurn(turn), rowOfTurn(turn));
        }

        void flip() {
            for (int p = 0; p < pinCount; p++) pinSlot[p] = slots - 2 - pinSlot[p];
            for (int t = 0; t < turnCount; t++) turns[t] = flippedTurn(turns[t]);
            sortTurns();
            filledAtFirst = flippedFill();
        }

        boolean isEven() {
            if (flippedFill() != filledAtFirst) return false;
            for (int t = 0; t < turnCount; t++) {
                if (placeOfTurn(flippedTurn(turns[t])) < 0) return false;
            }
            for (int p = 0; p < pinCount; p++) {
                if (!hasLike(pinRow[p], slots - 2 - pinSlot[p], pinStitch[p])) return false;
            }
            return true;
        }

        private boolean hasLike(int row, int slot, int stitch) {
            for (int p = 0; p < pinCount; p++) {
                if (pinRow[p] == row && pinSlot[p] == slot && pinStitch[p] == stitch) return true;
            }
            return false;
        }
    }

    /** What the work has come to: threads, OVERS, PINS that are DONE, the HAND. */
    private static final class Bench {
        private final int[] threadAt = new int[2 * MOST_SLOTS];
        private final int[] wentOver = new int[2 * MOST_SLOTS];
        private long done = 0;
        private int workedCount = 0;
        private final int[] worked = new int[MOST_PINS];
        private final int[] handBefore = new int[MOST_PINS];
        private int handSlot = 0;

        void begin(int w) {
            for (int t = 0; t < 2 * w; t++) {
                threadAt[t] = t;
                wentOver[t] = 0;
            }
            done = 0;
            workedCount = 0;
            handSlot = 0;
        }

        void copyFrom(Bench other) {
            System.arraycopy(other.threadAt, 0, threadAt, 0, 2 * MOST_SLOTS);
            System.arraycopy(other.wentOver, 0, wentOver, 0, 2 * MOST_SLOTS);
            done = other.done;
            workedCount = other.workedCount;
            System.arraycopy(other.worked, 0, worked, 0, MOST_PINS);
            System.arraycopy(other.handBefore, 0, handBefore, 0, MOST_PINS);
            handSlot = other.handSlot;
        }

        boolean isDone(int pin) {
            return hasPin(done, pin);
        }

        int lastWorked() {
            return worked[workedCount - 1];
        }

        void workPin(int pin, int slot, int stitch) {
            // never so, for each PIN is worked once at most
            if (workedCount >= MOST_PINS) return;
            int left = 2 * slot;
            for (int act = 0; act < actCount(stitch); act++) {
                if (isCrossAct(stitch, act)) {
                    goOver(left + 1, left + 2);
                } else {
                    goOver(left + 1, left);
                    goOver(left + 3, left + 2);
                }
            }
            worked[workedCount] = pin;
            handBefore[workedCount] = handSlot;
            workedCount++;
            done |= pinBit(pin);
            handSlot = slot;
        }

        void unwork(int pin, int slot, int stitch) {
            if (workedCount <= 0) return;
            int left = 2 * slot;
            for (int act = actCount(stitch) - 1; act >= 0; act--) {
                if (isCrossAct(stitch, act)) {
                    goBack(left + 1, left + 2);
                } else {
                    goBack(left + 1, left);
                    goBack(left + 3, left + 2);
                }
            }
            workedCount--;
            done &= ~pinBit(pin);
            handSlot = handBefore[workedCount];
        }

        private void goOver(int from, int to) {
            wentOver[threadAt[from]]++;
            changePlaces(from, to);
        }

        private void goBack(int from, int to) {
            changePlaces(from, to);
            wentOver[threadAt[from]]--;
        }

        private void changePlaces(int from, int to) {
            int over = threadAt[from];
            threadAt[from] = threadAt[to];
            threadAt[to] = over;
        }
    }

    /** Which PIN NEEDS which, and DEPTHS, found along the ROWS. */
    private static final class Needs {
        private final long[] direct = new long[MOST_PINS];
        private final long[] all = new long[MOST_PINS];
        private final int[] depth = new int[MOST_PINS];
        private final int[] byRow = new int[MOST_PINS];
        private final int[] latest = new int[MOST_SLOTS];

        void study(Pattern pattern) {
            sortByRow(pattern);
            Arrays.fill(latest, -1);
            for (int i = 0; i < pattern.pinCount; i++) {
                int pin = byRow[i];
                int slot = pattern.pinSlot[pin];
                direct[pin] = 0;
                all[pin] = 0;
                depth[pin] = 0;
                take(pin, latest[slot]);
                take(pin, latest[slot + 1]);
                latest[slot] = pin;
                latest[slot + 1] = pin;
            }
        }

        private void sortByRow(Pattern pattern) {
            for (int p = 0; p < pattern.pinCount; p++) {
                int to = p;
                while (to > 0 && pattern.pinRow[byRow[to - 1]] > pattern.pinRow[p]) {
                    byRow[to] = byRow[to - 1];
                    to--;
                }
                byRow[to] = p;
            }
        }

        private void take(int pin, int other) {
            if (other < 0) return;
            direct[pin] |= pinBit(other);
            all[pin] |= pinBit(other) | all[other];
            depth[pin] = Math.max(depth[pin], depth[other] + 1);
        }

        long neededBy(int pin, int pinCount) {
            long bits = 0;
            for (int p = 0; p < pinCount; p++) {
                if (hasPin(all[p], pin)) bits |= pinBit(p);
            }
            return bits;
        }
    }

    /** LAWFUL ORDERS of the PINS that are left, over the sets of them that can be ahead of the others. */
    private static final class Thought {
        // PINS of which none NEEDS another share no SLOT, so they are six at most, and six chains hold all
        // twelve; a set has the first ones of each chain: there are 3 * 3 * 3 * 3 * 3 * 3 sets at most
        private static final int MOST_SETS = 729;

        private int count = 0;
        private boolean lawful = false;
        private final int[] left = new int[MOST_IN_THOUGHT];
        private final int[] slot = new int[MOST_IN_THOUGHT];
        private final int[] before = new int[MOST_IN_THOUGHT];
        // each set stands behind those that it holds: the empty one first, the whole one last
        private int setCount = 0;
        private final int[] sets = new int[MOST_SETS];
        private final int[] placeOf = new int[1 << MOST_IN_THOUGHT];
        private final long[] ways = new long[MOST_SETS];
        private final int[] least = new int[MOST_SETS * MOST_IN_THOUGHT];

        boolean gather(Pattern pattern, Needs needed, long done, long lacking) {
            count = 0;
            lawful = true;
            for (int p = 0; p < pattern.pinCount; p++) {
                if (hasPin(done, p)) continue;
                if (count >= MOST_IN_THOUGHT) return false;
                left[count] = p;
                slot[count] = pattern.pinSlot[p];
                count++;
                if (hasPin(lacking, p)) lawful = false;
            }
            for (int i = 0; i < count; i++) before[i] = amongLeft(needed.all[left[i]]);
            findSets();
            return true;
        }

        private int amongLeft(long pins) {
            int bits = 0;
            for (int i = 0; i < count; i++) {
                if (hasPin(pins, left[i])) bits |= 1 << i;
            }
            return bits;
        }

        private boolean comesNext(int set, int i) {
            return (set >> i & 1) == 0 && (before[i] & ~set) == 0;
        }

        private void findSets() {
            setCount = 0;
            addSet(0);
            for (int place = 0; place < setCount && place < MOST_SETS; place++) {
                for (int i = 0; i < count; i++) {
                    if (comesNext(sets[place], i)) addSet(sets[place] | 1 << i);
                }
            }
        }

        private void addSet(int set) {
            // a place that an earlier call left there holds another set now, or none
            if (placeOf[set] < setCount && sets[placeOf[set]] == set) return;
            if (setCount >= MOST_SETS) return;
            placeOf[set] = setCount;
            sets[setCount] = set;
            setCount++;
        }

        long lawfulOrders() {
            if (!lawful) return 0;
            ways[setCount - 1] = 1;
            for (int place = setCount - 2; place >= 0; place--) {
                long sum = 0;
                for (int i = 0; i < count; i++) {
                    if (comesNext(sets[place], i)) sum += waysBy(sets[place], i);
                }
                ways[place] = sum;
            }
            return ways[0];
        }

        private long waysBy(int set, int i) {
            return ways[placeOf[set | 1 << i]];
        }

        /** Behind lawfulOrders(), for it goes by the ways that are counted there. */
        int pinOfOrder(long k, int step) {
            int set = 0;
            int last = 0;
            for (int s = 0; s <= step; s++) {
                for (int i = 0; i < count; i++) {
                    if (!comesNext(set, i)) continue;
                    last = i;
                    long through = waysBy(set, i);
                    if (k < through) break;
                    k -= through;
                }
                set |= 1 << last;
            }
            return left[last];
        }

        int leastTravel(int hand) {
            for (int place = setCount - 1; place > 0; place--) {
                for (int i = 0; i < count; i++) {
                    if ((sets[place] >> i & 1) == 0) continue;
                    least[place * MOST_IN_THOUGHT + i] = leastFrom(sets[place], slot[i]);
                }
            }
            return leastFrom(0, hand);
        }

        private int travelBy(int set, int from, int i) {
            int then = placeOf[set | 1 << i];
            return Math.abs(from - slot[i]) + least[then * MOST_IN_THOUGHT + i];
        }

        private int leastFrom(int set, int from) {
            int best = -1;
            for (int i = 0; i < count; i++) {
                if (!comesNext(set, i)) continue;
                int by = travelBy(set, from, i);
                if (best < 0 || by < best) best = by;
            }
            return Math.max(best, 0);
        }

        int pinOfLeast(int hand, int step) {
            int rest = leastTravel(hand);
            int set = 0;
            int from = hand;
            int last = 0;
            for (int s = 0; s <= step; s++) {
                last = firstBy(set, from, rest);
                rest -= Math.abs(from - slot[last]);
                set |= 1 << last;
                from = slot[last];
            }
            return left[last];
        }

        private int firstBy(int set, int from, int rest) {
            for (int i = 0; i < count; i++) {
                if (comesNext(set, i) && travelBy(set, from, i) == rest) return i;
            }
            return 0;
        }
    }

    /** HANGS and OUTS, and which are JOINED: the best for HANGS from one on, by sets of OUTS that are taken. */
    private static final class Joins {
        // more than the differences of SLOTS can ever come to together
        private static final int WORTH = 1000;

        private int hangs = 0;
        private int outs = 0;
        private int joined = 0;
        private int apart = 0;
        private final int[] hangTurn = new int[MOST_TURNS];
        private final int[] outTurn = new int[MOST_TURNS];
        private final int[] outOf = new int[MOST_TURNS];
        // (hangs + 1) << outs places: never more, for hangs + outs <= MOST_TURNS
        private final int[] best = new int[1 << MOST_TURNS];

        void join(Pattern pattern) {
            sortOut(pattern);
            weigh();
            choose();
        }

        private void sortOut(Pattern pattern) {
            hangs = 0;
            outs = 0;
            for (int t = 0; t < pattern.turnCount; t++) {
                if (pattern.turnsFull(t)) {
                    hangTurn[hangs] = pattern.turns[t];
                    hangs++;
                } else {
                    outTurn[outs] = pattern.turns[t];
                    outs++;
                }
            }
        }

        private boolean mayJoin(int hang, int out, int taken) {
            return (taken >> out & 1) == 0
                && Pattern.rowOfTurn(outTurn[out]) < Pattern.rowOfTurn(hangTurn[hang]);
        }

        private int difference(int hang, int out) {
            return Math.abs(Pattern.slotOfTurn(outTurn[out]) - Pattern.slotOfTurn(hangTurn[hang]));
        }

        private int bestFrom(int hang, int taken) {
            return best[hang << outs | taken];
        }

        private int worthOf(int hang, int out, int taken) {
            return WORTH - difference(hang, out) + bestFrom(hang + 1, taken | 1 << out);
        }

        private void weigh() {
            int sets = 1 << outs;
            for (int taken = 0; taken < sets; taken++) best[hangs << outs | taken] = 0;
            for (int hang = hangs - 1; hang >= 0; hang--) {
                for (int taken = 0; taken < sets; taken++) {
                    // each HANG ahead has taken one OUT at most
                    if (Integer.bitCount(taken) > hang) continue;
                    best[hang << outs | taken] = bestOf(hang, taken);
                }
            }
        }

        private int bestOf(int hang, int taken) {
            int most = bestFrom(hang + 1, taken);
            for (int out = 0; out < outs; out++) {
                if (mayJoin(hang, out, taken)) most = Math.max(most, worthOf(hang, out, taken));
            }
            return most;
        }

        private void choose() {
            joined = 0;
            apart = 0;
            int taken = 0;
            for (int hang = 0; hang < hangs; hang++) {
                int out = firstOut(hang, taken);
                outOf[hang] = out;
                if (out < 0) continue;
                taken |= 1 << out;
                joined++;
                apart += difference(hang, out);
            }
        }

        private int firstOut(int hang, int taken) {
            for (int out = 0; out < outs; out++) {
                if (mayJoin(hang, out, taken)
                    && worthOf(hang, out, taken) == bestFrom(hang, taken)) return out;
            }
            return -1;
        }
    }

    /** THE TAPE, and its text read as PARTS, or up to the FAULT. */
    private static final class Tape {
        private static final int PIN = 0, TURN = 1, EMPTY = 2, FILL = 3;
        // the shortest PART has six signs
        private static final int MOST_PARTS = MOST_SIGNS / 6;

        private final int[] signs = new int[MOST_SIGNS];
        private int length = 0;
        private int place = 0;
        private int fault = -1;
        private int parts = 0;
        private final int[] kind = new int[MOST_PARTS];
        private final int[] first = new int[MOST_PARTS];
        private final int[] second = new int[MOST_PARTS];
        private final int[] third = new int[MOST_PARTS];

        boolean append(int sign) {
            if (length >= MOST_SIGNS) return false;
            signs[length] = sign;
            length++;
            return true;
        }

        void read() {
            place = 0;
            fault = -1;
            parts = 0;
            for (int part = 0; part < MOST_PARTS; part++) {
                readPart(part);
                parts = part + 1;
                if (fault >= 0 || place >= length) return;
                expect(';');
                if (fault >= 0) return;
            }
        }

        private void readPart(int part) {
            kind[part] = readKind();
            if (fault >= 0) return;
            first[part] = readNumber();
            if (kind[part] == PIN || kind[part] == TURN) second[part] = readNumber();
            if (kind[part] == PIN) third[part] = readStitch();
        }

        private int readKind() {
            int start = place;
            skipWord();
            if (isWord(start, "pin")) return PIN;
            if (isWord(start, "turn")) return TURN;
            if (isWord(start, "empty")) return EMPTY;
            if (isWord(start, "fill")) return FILL;
            fault = start;
            return FILL;
        }

        private int readStitch() {
            expect(' ');
            if (fault >= 0) return 0;
            int start = place;
            skipWord();
            for (int s = 0; s < STITCHES; s++) {
                if (isWord(start, nameOf(s))) return s;
            }
            fault = start;
            return 0;
        }

        private static String nameOf(int stitch) {
            switch (stitch) {
                case CROSS: return "cross";
                case TWIST: return "twist";
                case HALF: return "half";
                case CLOTH: return "cloth";
                default: return "whole";
            }
        }

        private int readNumber() {
            expect(' ');
            if (fault >= 0) return 0;
            if (!isFigureHere()) {
                fault = place;
                return 0;
            }
            int number = readFigure();
            return isFigureHere() ? 10 * number + readFigure() : number;
        }

        private boolean isFigureHere() {
            return place < length && signs[place] >= '0' && signs[place] <= '9';
        }

        private int readFigure() {
            int figure = signs[place] - '0';
            place++;
            return figure;
        }

        private void skipWord() {
            while (place < length && signs[place] >= 'a' && signs[place] <= 'z') place++;
        }

        /** Whether the word that was skipped from start on is that. */
        private boolean isWord(int start, String word) {
            if (place - start != word.length()) return false;
            for (int i = 0; i < word.length(); i++) {
                if (signs[start + i] != word.charAt(i)) return false;
            }
            return true;
        }

        /** A FAULT that was met stays the first one. */
        private void expect(int sign) {
            if (fault >= 0) return;
            if (place < length && signs[place] == sign) place++;
            else fault = place;
        }
    }

    /** The LISTS, side by side in one row. */
    private static final class Rows {
        private static final int HOLDS_NONE = -1;

        private final int[] size = {HOLDS_NONE, HOLDS_NONE, HOLDS_NONE, HOLDS_NONE};
        private final long[] values = new long[LISTS * LONGEST_LIST];

        boolean isList(int list) {
            return list >= 0 && list < LISTS;
        }

        boolean holds(int list) {
            return size[list] != HOLDS_NONE;
        }

        boolean hasPlace(int list, int i) {
            return i >= 0 && i < size[list];
        }

        void begin(int list, int n) {
            size[list] = n;
            for (int i = 0; i < n; i++) put(list, i, 0);
        }

        void put(int list, int i, long v) {
            values[list * LONGEST_LIST + i] = v;
        }

        long at(int list, int i) {
            return values[list * LONGEST_LIST + i];
        }
    }
}
