/** Promises 1 to 11: each sentence that names a boundary case. */
public final class PrickingBoundariesTest extends Boundaries {
    private static final Setup IDLE = PrickingBoundariesTest::idle, BUSY = PrickingBoundariesTest::busy;

    public static void main(String[] args) throws Exception {
        run(PrickingBoundariesTest.class, 1, 11);
    }

    // ---- 1 a new object

    @Says("W 2 .. 12 (6 at first)")
    static void p1SixAtFirst() {
        LacePins x = new LacePins();
        due("W", x.count(0), 6);
        due("the last SLOT", x.filled(5, 0), 1);
        due("none behind it", x.filled(6, 0), NONE);
        due("what W was", x.loom(3), 6);
    }

    @Says("Six SLOTS, no PINS")
    static void p1NoPins() {
        LacePins x = new LacePins();
        due("PINS", x.count(1), 0);
        due("of", x.of(0, 0), NONE);
        for (int what = 0; what <= 2; what++) due("pins " + what, x.pins(what), 0);
        due("the first number", x.pin(99, 4, 0), 0);
    }

    @Says("FILLED, unless told")
    static void p1FilledUnlessTold() {
        LacePins x = new LacePins();
        for (int s = 0; s < 6; s++) {
            due("filled at ROW 0", x.filled(s, 0), 1);
            due("filled at ROW 99", x.filled(s, 99), 1);
        }
        due("TURNS", x.count(2), 0);
    }

    @Says("at first thread 2 s is left in SLOT s, 2 s + 1 right")
    static void p1ThreadsAtFirst() {
        LacePins x = new LacePins();
        for (int s = 0; s < 6; s++) {
            due("left of " + s, x.thread(s, 0), 2 * s);
            due("right of " + s, x.thread(s, 1), 2 * s + 1);
        }
    }

    @Says("OVERS of a thread: how often it went over another one")
    static void p1NoOversYet() {
        LacePins x = new LacePins();
        for (int t = 0; t < 12; t++) due("overs " + t, x.overs(t), 0);
    }

    @Says("The HAND is at a SLOT (0 at first)")
    static void p1HandAtFirst() {
        LacePins x = new LacePins();
        due("HAND", x.count(6), 0);
        due("where it was", x.hand(5), 0);
    }

    @Says("LISTS 0 .. 3 hold nothing (at first)")
    static void p1ListsHoldNothing() {
        LacePins x = new LacePins();
        for (int list = 0; list <= 3; list++) {
            due("set", x.set(list, 0, 1), NOTHING);
            due("lay", x.lay(list, 0), NOTHING);
            due("get", x.get(list, 0), NO);
        }
    }

    @Says("Six SLOTS, no PINS")
    static void p1TapeAndPaperAreEmpty() {
        LacePins x = new LacePins();
        due("bytes of THE TAPE", x.count(4), 0);
        due("bytes of THE PAPER", x.count(5), 0);
        due("paper", x.paper(0), NONE);
        due("clear", x.clear(), 0);
        due("DONE", x.count(3), 0);
        due("no IMAGE", x.restore(), STATE);
    }

    @Says("NONE (-1) no such number; BAD (-2) a number is not as told; STATE (-3) as told; FULL (-4)")
    static void p1Constants() {
        due("NONE", LacePins.NONE, -1);
        due("BAD", LacePins.BAD, -2);
        due("STATE", LacePins.STATE, -3);
        due("FULL", LacePins.FULL, -4);
        due("NO", LacePins.NO, Long.MIN_VALUE);
    }

    // ---- 2 loom

    @Says("W 2 .. 12")
    static void p2Least() {
        LacePins x = new LacePins();
        due("loom 2", x.loom(2), 6);
        due("the last SLOT", x.filled(1, 0), 1);
        due("none behind it", x.filled(2, 0), NONE);
        due("the last thread", x.where(3), 3);
        due("none behind it", x.where(4), NONE);
        due("the one place for PINS", x.pin(0, 0, 0), 0);
        due("none behind it", x.pin(1, 1, 0), BAD);
    }

    @Says("W 2 .. 12")
    static void p2Most() {
        LacePins x = new LacePins();
        due("loom 12", x.loom(12), 6);
        due("the last SLOT", x.filled(11, 99), 1);
        due("none behind it", x.filled(12, 0), NONE);
        due("the last thread", x.where(23), 23);
        due("none behind it", x.where(24), NONE);
        due("the last place for PINS", x.pin(0, 10, 0), 0);
        due("none behind it", x.pin(1, 11, 0), BAD);
    }

    @Says("W SLOTS")
    static void p2EachWidth() {
        LacePins x = new LacePins();
        int was = 6;
        for (int w = 2; w <= 12; w++) {
            due("loom " + w, x.loom(w), was);
            due("W", x.count(0), w);
            was = w;
        }
    }

    @Says("BAD (-2) a number is not as told")
    static void p2TooSmall() {
        for (int w : below(2)) leavesAll(BUSY, "loom " + w, x -> x.loom(w), BAD);
    }

    @Says("BAD (-2) a number is not as told")
    static void p2TooLarge() {
        for (int w : above(12)) leavesAll(BUSY, "loom " + w, x -> x.loom(w), BAD);
    }

    @Says("whatever was DONE")
    static void p2WhateverWasDone() {
        LacePins x = made(BUSY);
        due("two are DONE", x.count(3), 2);
        due("loom", x.loom(7), 5);
        due("nothing is DONE", x.count(3), 0);
        due("nothing to undo", x.undo(), STATE);
        due("a PIN may come", x.pin(0, 5, 0), 0);
        LacePins y = made(then(chain(30), z -> z.workAll()));
        due("all thirty are DONE", y.count(3), 30);
        due("loom", y.loom(2), 2);
        due("nothing is DONE", y.count(3), 0);
    }

    @Says("FILLED, threads as at first, no PINS, no TURNS, the HAND at 0, nothing DONE")
    static void p2AllAsAtFirst() {
        Setup full = x -> {
            x.loom(4);
            for (int i = 0; i < 10; i++) x.turn(i % 4, i);
            for (int s = 0; s < 4; s++) x.fill(s, false);
        };
        LacePins x = made(full);
        due("the same W", x.loom(4), 4);
        same("as a new one", traces(x), traces(made(loom(4))));
        LacePins y = made(z -> {
            for (int p = 0; p < 5; p++) z.pin(p, p % 5, WHOLE);
            z.workAll();
            z.hand(5);
        });
        due("the same W", y.loom(6), 6);
        same("as a new one", traces(y), traces(new LacePins()));
    }

    @Says("(THE TAPE, THE PAPER, LISTS, THE IMAGE stay)")
    static void p2Stay() {
        LacePins x = made(BUSY);
        String paper = paperOf(x);
        due("loom", x.loom(2), 5);
        due("bytes of THE TAPE", x.count(4), 6);
        due("bytes of THE PAPER", x.count(5), 5);
        same("THE PAPER", paperOf(x), paper);
        for (int t = 0; t < 10; t++) due("LIST 0", x.get(0, t + 1), t);
        due("LIST 1, of no longs", x.set(1, 0, 0), BEYOND);
        due("LIST 2", x.get(2, 1), -9);
        due("LIST 3", x.set(3, 0, 0), NOTHING);
        due("THE TAPE is told", x.pricking(), 1);
        due("THE IMAGE", x.restore(), 4);
        due("its W", x.count(0), 5);
    }

    // ---- 3 pin

    @Says("PINS, 30 at most, from 0 on")
    static void p3NumbersFromZero() {
        LacePins x = new LacePins();
        due("first", x.pin(9, 0, 0), 0);
        due("second, of a lesser ROW", x.pin(0, 0, 0), 1);
        due("drop", x.drop(), 1);
        due("the number comes again", x.pin(3, 0, 0), 1);
    }

    @Says("ROW (0 .. 99)")
    static void p3RowLeastAndMost() {
        LacePins x = new LacePins();
        due("ROW 0", x.pin(0, 0, 0), 0);
        due("ROW 99", x.pin(99, 0, 0), 1);
        due("of", x.of(0, 0), 0);
        due("of", x.of(1, 0), 99);
    }

    @Says("ROW (0 .. 99)")
    static void p3RowTooSmall() {
        for (int row : below(0)) leavesAll(IDLE, "ROW " + row, x -> x.pin(row, 0, 0), BAD);
    }

    @Says("ROW (0 .. 99)")
    static void p3RowTooLarge() {
        for (int row : above(99)) leavesAll(IDLE, "ROW " + row, x -> x.pin(row, 0, 0), BAD);
    }

    @Says("SLOT s (0 .. W - 2:")
    static void p3SlotLeastAndMost() {
        for (int w = 2; w <= 12; w++) {
            LacePins x = made(loom(w));
            due("SLOT 0", x.pin(0, 0, 0), 0);
            due("SLOT W - 2", x.pin(1, w - 2, 0), 1);
            due("of", x.of(1, 1), w - 2);
            due("SLOT W - 1", x.pin(2, w - 1, 0), BAD);
        }
    }

    @Says("SLOT s (0 .. W - 2:")
    static void p3SlotTooSmall() {
        for (int slot : below(0)) leavesAll(IDLE, "SLOT " + slot, x -> x.pin(0, slot, 0), BAD);
    }

    @Says("SLOT s (0 .. W - 2:")
    static void p3SlotTooLarge() {
        for (int slot : above(3)) leavesAll(IDLE, "SLOT " + slot, x -> x.pin(0, slot, 0), BAD);
    }

    @Says("STITCH: 0 cross, 1 twist, 2 half, 3 cloth, 4 whole")
    static void p3StitchLeastAndMost() {
        LacePins x = new LacePins();
        for (int s = 0; s <= 4; s++) {
            due("STITCH " + s, x.pin(s, 0, s), s);
            due("of", x.of(s, 2), s);
        }
    }

    @Says("STITCH: 0 cross, 1 twist, 2 half, 3 cloth, 4 whole")
    static void p3StitchNotAsTold() {
        for (int s : outside(0, 4)) leavesAll(IDLE, "STITCH " + s, x -> x.pin(0, 0, s), BAD);
    }

    @Says("PINS are DONE or not (not at first)")
    static void p3NotDoneAtFirst() {
        LacePins x = new LacePins();
        for (int p = 0; p < 30; p++) due("pin", x.pin(p, p % 5, 0), p);
        for (int p = 0; p < 30; p++) due("DONE", x.of(p, 3), 0);
        due("bits of DONE", x.pins(2), 0);
    }

    @Says("STATE: a PIN is DONE, or one of that ROW shares a SLOT")
    static void p3OneIsDone() {
        leavesAll(BUSY, "pin", x -> x.pin(0, 0, 0), STATE);
        LacePins x = made(BUSY);
        x.undo();
        due("one is still DONE", x.pin(0, 0, 0), STATE);
        x.undo();
        due("none is DONE", x.pin(0, 0, 0), 4);
    }

    @Says("STATE: a PIN is DONE, or one of that ROW shares a SLOT")
    static void p3SharesItsFirstSlot() {
        leavesAll(x -> x.pin(5, 2, 0), "pin", x -> x.pin(5, 1, 0), STATE);
    }

    @Says("STATE: a PIN is DONE, or one of that ROW shares a SLOT")
    static void p3SharesItsSecondSlot() {
        leavesAll(x -> x.pin(5, 2, 0), "pin", x -> x.pin(5, 3, 0), STATE);
    }

    @Says("STATE: a PIN is DONE, or one of that ROW shares a SLOT")
    static void p3SharesBothSlots() {
        leavesAll(x -> x.pin(5, 2, 0), "pin", x -> x.pin(5, 2, 1), STATE);
        leavesAll(IDLE, "between two", x -> x.pin(3, 1, 0), STATE);
    }

    @Says("PINS of one ROW share no SLOT")
    static void p3SideBySide() {
        LacePins x = made(loom(12));
        for (int p = 0; p < 6; p++) due("side by side", x.pin(7, 10 - 2 * p, 0), p);
        due("the ROW ahead", x.pin(6, 5, 0), 6);
        due("the ROW behind", x.pin(8, 5, 0), 7);
    }

    @Says("FULL: thirty")
    static void p3Thirty() {
        LacePins x = made(chain(29));
        due("the thirtieth", x.pin(29, 0, 0), 29);
        due("the one behind it", x.pin(30, 0, 0), FULL);
        due("PINS", x.count(1), 30);
        due("drop", x.drop(), 29);
        due("there is a place again", x.pin(31, 0, 0), 29);
        due("and none", x.pin(32, 0, 0), FULL);
        leavesAll(chain(30), "pin", y -> y.pin(99, 0, 0), FULL);
    }

    @Says("the first that a call's words name")
    static void p3BadAheadOfState() {
        leavesAll(BUSY, "one is DONE", x -> x.pin(100, 0, 0), BAD);
        leavesAll(BUSY, "one is DONE", x -> x.pin(0, 4, 0), BAD);
        leavesAll(BUSY, "one is DONE", x -> x.pin(0, 0, 5), BAD);
        leavesAll(IDLE, "a SLOT is shared", x -> x.pin(3, 0, 5), BAD);
        leavesAll(IDLE, "a SLOT is shared", x -> x.pin(3, -1, 0), BAD);
    }

    @Says("the first that a call's words name")
    static void p3BadAheadOfFull() {
        leavesAll(chain(30), "thirty", x -> x.pin(-1, 0, 0), BAD);
        leavesAll(chain(30), "thirty", x -> x.pin(50, 1, 0), BAD);
        leavesAll(chain(30), "thirty", x -> x.pin(50, 0, -1), BAD);
    }

    @Says("the first that a call's words name")
    static void p3StateAheadOfFull() {
        leavesAll(chain(30), "a SLOT is shared", x -> x.pin(29, 0, 0), STATE);
        leavesAll(then(chain(30), x -> x.work(0)), "one is DONE", x -> x.pin(50, 0, 0), STATE);
    }

    // ---- 4 drop

    @Says("STATE: a PIN is DONE, or there is none")
    static void p4OneIsDone() {
        leavesAll(BUSY, "drop", x -> x.drop(), STATE);
        leavesAll(then(chain(2), x -> x.work(0)), "the last one isn't DONE itself", x -> x.drop(), STATE);
        leavesAll(then(chain(1), x -> x.work(0)), "the only one is DONE", x -> x.drop(), STATE);
    }

    @Says("STATE: a PIN is DONE, or there is none")
    static void p4ThereIsNone() {
        leavesAll(NEW, "drop", x -> x.drop(), STATE);
        leavesAll(then(chain(1), x -> x.drop()), "the last one went", x -> x.drop(), STATE);
        leavesAll(then(chain(3), x -> x.loom(4)), "loom took them", x -> x.drop(), STATE);
    }

    @Says("The last PIN goes: how many there are")
    static void p4DownToNone() {
        LacePins x = made(chain(30));
        for (int n = 29; n >= 0; n--) {
            due("drop", x.drop(), n);
            due("it is gone", x.of(n, 0), NONE);
        }
        due("PINS", x.count(1), 0);
        due("deepest", x.deepest(), NOT_ANY);
    }

    @Says("The last PIN goes")
    static void p4ItsSlotsAreFree() {
        LacePins x = made(y -> y.pin(5, 2, 0));
        due("drop", x.drop(), 0);
        due("one that would have shared a SLOT", x.pin(5, 3, 0), 0);
    }

    // ---- 5 stitch

    @Says("NONE: pin; BAD; STATE: a PIN is DONE")
    static void p5NoSuchPin() {
        for (int pin : outside(0, 3)) leavesAll(IDLE, "pin " + pin, x -> x.stitch(pin, 0), NONE);
        leavesAll(NEW, "no PINS", x -> x.stitch(0, 0), NONE);
        leavesAll(chain(30), "pin 30", x -> x.stitch(30, 0), NONE);
    }

    @Says("NONE: pin; BAD; STATE: a PIN is DONE")
    static void p5NotAsTold() {
        for (int s : outside(0, 4)) leavesAll(IDLE, "STITCH " + s, x -> x.stitch(3, s), BAD);
    }

    @Says("NONE: pin; BAD; STATE: a PIN is DONE")
    static void p5OneIsDone() {
        leavesAll(BUSY, "of one that is DONE", x -> x.stitch(0, 0), STATE);
        leavesAll(BUSY, "of one that isn't", x -> x.stitch(3, 0), STATE);
        leavesAll(BUSY, "what it is already", x -> x.stitch(3, TWIST), STATE);
    }

    @Says("STITCH of a PIN becomes that: what it was")
    static void p5LeastAndMost() {
        LacePins x = made(chain(30));
        due("the first PIN", x.stitch(0, WHOLE), CROSS);
        due("the last PIN", x.stitch(29, CROSS), WHOLE);
        due("the same again", x.stitch(29, CROSS), CROSS);
        due("of", x.of(0, 2), WHOLE);
        due("of", x.of(29, 2), CROSS);
        due("the others stay", x.of(28, 2), CLOTH);
    }

    @Says("the first that a call's words name")
    static void p5OrderOfAnswers() {
        leavesAll(IDLE, "NONE ahead of BAD", x -> x.stitch(4, 5), NONE);
        leavesAll(BUSY, "NONE ahead of BAD and STATE", x -> x.stitch(-1, -1), NONE);
        leavesAll(BUSY, "NONE ahead of STATE", x -> x.stitch(4, 0), NONE);
        leavesAll(BUSY, "BAD ahead of STATE", x -> x.stitch(3, 5), BAD);
    }

    // ---- 6 of

    @Says("5 whether it LACKS a pair. NONE")
    static void p6NoSuchPin() {
        for (int pin : outside(0, 3)) {
            for (int what = 0; what <= 5; what++) {
                int asked = what;
                due("of " + pin + " " + what, made(IDLE).of(pin, asked), NONE);
            }
        }
        due("no PINS", new LacePins().of(0, 0), NONE);
        due("pin 30", made(chain(30)).of(30, 0), NONE);
    }

    @Says("5 whether it LACKS a pair. NONE")
    static void p6NoSuchWhat() {
        for (int what : outside(0, 5)) leavesAll(BUSY, "what " + what, x -> x.of(0, what), NONE);
        leavesAll(BUSY, "neither", x -> x.of(4, 6), NONE);
    }

    @Says("DEPTH: 0, if it NEEDS none, else 1 more than the greatest DEPTH of those it NEEDS")
    static void p6Depth() {
        LacePins x = made(chain(30));
        due("it NEEDS none", x.of(0, 4), 0);
        due("it NEEDS all", x.of(29, 4), 29);
        LacePins y = made(z -> {
            z.pin(1, 0, 0);
            z.pin(2, 0, 0);
            z.pin(1, 2, 0);
            z.pin(5, 1, 0);
        });
        due("the greater of 1 and 0", y.of(3, 4), 2);
    }

    @Says("It LACKS a pair, if one of its SLOTS is EMPTY at its ROW")
    static void p6Lacks() {
        for (int slot = 0; slot < 6; slot++) {
            LacePins x = new LacePins();
            x.pin(5, 2, 0);
            x.fill(slot, false);
            due("EMPTY is " + slot, x.of(0, 5), slot == 2 || slot == 3 ? 1 : 0);
        }
        LacePins x = new LacePins();
        x.pin(5, 2, 0);
        x.fill(2, false);
        x.fill(3, false);
        due("both", x.of(0, 5), 1);
    }

    @Says("It LACKS a pair, if one of its SLOTS is EMPTY at its ROW")
    static void p6LacksFromTheRowOn() {
        int[] want = {1, 1, 0};
        for (int row = 4; row <= 6; row++) {
            LacePins x = new LacePins();
            x.pin(5, 2, 0);
            x.turn(3, row);
            due("EMPTY from " + row, x.of(0, 5), want[row - 4]);
            x.fill(3, false);
            due("FILLED from " + row, x.of(0, 5), 1 - want[row - 4]);
        }
    }

    @Says("what is asked changes nothing")
    static void p6AsksOnly() {
        for (int what = 0; what <= 5; what++) {
            int asked = what;
            leavesAll(BUSY, "of " + what, x -> x.of(3, asked));
        }
    }

    // ---- 7 fill

    @Says("NONE; STATE: a PIN is DONE")
    static void p7NoSuchSlot() {
        for (int slot : outside(0, 4)) {
            leavesAll(IDLE, "slot " + slot, x -> x.fill(slot, false), NONE);
            leavesAll(IDLE, "slot " + slot, x -> x.fill(slot, true), NONE);
        }
        leavesAll(loom(12), "slot 12", x -> x.fill(12, false), NONE);
        leavesAll(loom(2), "slot 2", x -> x.fill(2, false), NONE);
    }

    @Says("NONE; STATE: a PIN is DONE")
    static void p7OneIsDone() {
        leavesAll(BUSY, "otherwise", x -> x.fill(2, false), STATE);
        leavesAll(BUSY, "as it is", x -> x.fill(2, true), STATE);
    }

    @Says("the first that a call's words name")
    static void p7NoneAheadOfState() {
        leavesAll(BUSY, "slot 5", x -> x.fill(5, false), NONE);
        leavesAll(BUSY, "slot -1", x -> x.fill(-1, true), NONE);
    }

    @Says("A SLOT is FILLED at first, or not: whether it was (1, 0)")
    static void p7FirstAndLastSlot() {
        for (int w = 2; w <= 12; w++) {
            LacePins x = made(loom(w));
            due("first", x.fill(0, false), 1);
            due("last", x.fill(w - 1, false), 1);
            due("first again", x.fill(0, false), 0);
            due("last back", x.fill(w - 1, true), 0);
            due("last again", x.fill(w - 1, true), 1);
            due("first", x.filled(0, 0), 0);
            due("last", x.filled(w - 1, 0), 1);
        }
    }

    @Says("A SLOT is FILLED at first, or not: whether it was (1, 0)")
    static void p7AllEmpty() {
        LacePins x = made(loom(12));
        for (int s = 0; s < 12; s++) due("fill", x.fill(s, false), 1);
        for (int s = 0; s < 12; s++) due("filled", x.filled(s, 99), 0);
        due("PAIRS", x.pairs(0), 0);
    }

    @Says("At first a SLOT has its threads, if it is EMPTY, too.")
    static void p7ThreadsOfAnEmptySlot() {
        LacePins x = made(loom(3));
        for (int s = 0; s < 3; s++) x.fill(s, false);
        threads(x, 0, 1, 2, 3, 4, 5);
        for (int t = 0; t < 6; t++) due("where", x.where(t), t);
    }

    // ---- 8 turn

    @Says("NONE: slot; BAD: row; STATE: a PIN is DONE; FULL: ten")
    static void p8NoSuchSlot() {
        for (int slot : outside(0, 4)) leavesAll(IDLE, "slot " + slot, x -> x.turn(slot, 7), NONE);
        leavesAll(loom(12), "slot 12", x -> x.turn(12, 7), NONE);
    }

    @Says("NONE: slot; BAD: row; STATE: a PIN is DONE; FULL: ten")
    static void p8RowNotAsTold() {
        for (int row : outside(0, 99)) leavesAll(IDLE, "row " + row, x -> x.turn(2, row), BAD);
    }

    @Says("NONE: slot; BAD: row; STATE: a PIN is DONE; FULL: ten")
    static void p8OneIsDone() {
        leavesAll(BUSY, "it would come", x -> x.turn(2, 7), STATE);
        leavesAll(BUSY, "it would go", x -> x.turn(4, 6), STATE);
    }

    @Says("NONE: slot; BAD: row; STATE: a PIN is DONE; FULL: ten")
    static void p8Ten() {
        LacePins x = new LacePins();
        for (int i = 0; i < 10; i++) due("comes", x.turn(i % 6, 10 + i / 6), i + 1);
        due("the eleventh, of another SLOT", x.turn(5, 99), FULL);
        due("the eleventh, of a SLOT that has some", x.turn(0, 0), FULL);
        due("TURNS", x.count(2), 10);
        leavesAll(PrickingBoundariesTest::tenTurns, "turn", y -> y.turn(5, 99), FULL);
    }

    private static void tenTurns(LacePins x) {
        for (int i = 0; i < 10; i++) x.turn(i % 3, i);
    }

    @Says("A TURN comes, or goes, if it is there: how many there are")
    static void p8GoesThoughTen() {
        for (int i = 0; i < 10; i++) {
            LacePins x = made(PrickingBoundariesTest::tenTurns);
            due("one that is there goes", x.turn(i % 3, i), 9);
            due("another comes", x.turn(5, 99), 10);
            due("and it is FULL again", x.turn(i % 3, i), FULL);
        }
    }

    @Says("A TURN comes, or goes, if it is there: how many there are")
    static void p8ComesAndGoes() {
        LacePins x = new LacePins();
        due("comes", x.turn(3, 5), 1);
        due("of another SLOT comes", x.turn(4, 5), 2);
        due("of another ROW comes", x.turn(3, 6), 3);
        due("goes", x.turn(3, 5), 2);
        due("goes", x.turn(3, 6), 1);
        due("goes", x.turn(4, 5), 0);
        same("as a new one", traces(x), traces(new LacePins()));
    }

    @Says("a SLOT and a ROW from which on")
    static void p8FirstAndLastRow() {
        LacePins x = made(loom(12));
        due("SLOT 0, ROW 0", x.turn(0, 0), 1);
        due("SLOT 11, ROW 99", x.turn(11, 99), 2);
        due("SLOT 11, ROW 0", x.turn(11, 0), 3);
        due("SLOT 0, ROW 99", x.turn(0, 99), 4);
        due("goes", x.turn(11, 99), 3);
        due("goes", x.turn(0, 0), 2);
    }

    @Says("the first that a call's words name")
    static void p8OrderOfAnswers() {
        Setup fullAndDone = then(PrickingBoundariesTest::tenTurns, x -> {
            x.pin(0, 4, 0);
            x.work(0);
        });
        leavesAll(fullAndDone, "NONE ahead of BAD, STATE, FULL", x -> x.turn(6, 100), NONE);
        leavesAll(fullAndDone, "NONE ahead of STATE, FULL", x -> x.turn(-1, 7), NONE);
        leavesAll(fullAndDone, "BAD ahead of STATE, FULL", x -> x.turn(5, 100), BAD);
        leavesAll(fullAndDone, "STATE ahead of FULL", x -> x.turn(5, 99), STATE);
        leavesAll(PrickingBoundariesTest::tenTurns, "NONE ahead of FULL", x -> x.turn(6, 99), NONE);
        leavesAll(PrickingBoundariesTest::tenTurns, "BAD ahead of FULL", x -> x.turn(5, -1), BAD);
        leavesAll(NEW, "NONE ahead of BAD", x -> x.turn(6, -1), NONE);
    }

    // ---- 9 filled

    @Says("a SLOT and a ROW from which on (that one, too)")
    static void p9ThatRowToo() {
        LacePins x = new LacePins();
        x.turn(2, 50);
        due("the ROW ahead", x.filled(2, 49), 1);
        due("that one", x.filled(2, 50), 0);
        due("the ROW behind", x.filled(2, 51), 0);
        due("the last ROW", x.filled(2, 99), 0);
        due("the SLOT ahead", x.filled(1, 50), 1);
        due("the SLOT behind", x.filled(3, 50), 1);
    }

    @Says("a SLOT and a ROW from which on (that one, too)")
    static void p9FirstAndLastRow() {
        LacePins x = new LacePins();
        x.turn(0, 0);
        x.turn(5, 99);
        due("from ROW 0 on", x.filled(0, 0), 0);
        due("from ROW 0 on", x.filled(0, 99), 0);
        due("ahead of ROW 99", x.filled(5, 98), 1);
        due("at ROW 99", x.filled(5, 99), 0);
    }

    @Says("it is the other way about than it was ahead of it (EMPTY for FILLED, FILLED for EMPTY)")
    static void p9OtherWayAbout() {
        LacePins x = new LacePins();
        int[] rows = {30, 10, 20};
        for (int row : rows) x.turn(3, row);
        int[] want = {1, 0, 1, 0};
        for (int i = 0; i < 4; i++) due("FILLED at first, ROW " + 10 * i, x.filled(3, 10 * i), want[i]);
        x.fill(3, false);
        for (int i = 0; i < 4; i++) due("EMPTY at first, ROW " + 10 * i, x.filled(3, 10 * i), 1 - want[i]);
        LacePins y = new LacePins();
        for (int i = 0; i < 10; i++) y.turn(3, 90 + i);
        for (int i = 0; i < 10; i++) due("ten in one SLOT", y.filled(3, 90 + i), i % 2);
    }

    @Says("NONE: slot; BAD: row")
    static void p9NoSuchSlot() {
        for (int slot : outside(0, 4)) leavesAll(BUSY, "slot " + slot, x -> x.filled(slot, 0), NONE);
        due("slot 12", made(loom(12)).filled(12, 0), NONE);
    }

    @Says("NONE: slot; BAD: row")
    static void p9RowNotAsTold() {
        for (int row : outside(0, 99)) leavesAll(BUSY, "row " + row, x -> x.filled(4, row), BAD);
    }

    @Says("the first that a call's words name")
    static void p9NoneAheadOfBad() {
        due("filled", made(BUSY).filled(5, 100), NONE);
        due("filled", made(BUSY).filled(-1, -1), NONE);
    }

    @Says("what is asked changes nothing")
    static void p9AsksOnly() {
        leavesAll(BUSY, "filled", x -> x.filled(4, 6));
    }

    // ---- 10 mirror

    @Says("It is MIRRORED: how many PINS. STATE: a PIN is DONE")
    static void p10OneIsDone() {
        leavesAll(BUSY, "mirror", x -> x.mirror(), STATE);
        leavesAll(then(chain(1), x -> x.work(0)), "an EVEN one, too", x -> x.mirror(), STATE);
    }

    @Says("It is MIRRORED: how many PINS")
    static void p10NoneAndThirty() {
        due("no PINS", new LacePins().mirror(), 0);
        due("thirty", made(chain(30)).mirror(), 30);
    }

    @Says("SLOT s of a PIN becomes W - 2 - s")
    static void p10FirstAndLastPinSlot() {
        for (int w = 2; w <= 12; w++) {
            LacePins x = made(loom(w));
            x.pin(4, 0, HALF);
            x.pin(5, w - 2, WHOLE);
            due("mirror", x.mirror(), 2);
            due("the first becomes the last", x.of(0, 1), w - 2);
            due("the last becomes the first", x.of(1, 1), 0);
            due("ROW stays", x.of(0, 0), 4);
            due("STITCH stays", x.of(1, 2), WHOLE);
        }
    }

    @Says("of TURNS (and what is FILLED at first) W - 1 - s")
    static void p10FirstAndLastTurnSlot() {
        for (int w = 2; w <= 12; w++) {
            LacePins x = made(loom(w));
            x.turn(0, 10);
            x.turn(w - 1, 20);
            x.fill(0, false);
            due("mirror", x.mirror(), 0);
            due("FILLED at first, of 0", x.filled(0, 0), 1);
            due("FILLED at first, of W - 1", x.filled(w - 1, 0), 0);
            due("TURN of 0", x.filled(0, 20), 0);
            due("TURN of W - 1", x.filled(w - 1, 9), 0);
            due("TURN of W - 1", x.filled(w - 1, 10), 1);
            due("it goes", x.turn(w - 1, 10), 1);
            due("it goes", x.turn(0, 20), 0);
        }
    }

    @Says("TURNS of SLOTS, 10 at most in all")
    static void p10TenTurns() {
        LacePins x = made(PrickingBoundariesTest::tenTurns);
        due("mirror", x.mirror(), 0);
        due("TURNS", x.count(2), 10);
        due("none more", x.turn(0, 50), FULL);
        for (int i = 0; i < 10; i++) due("each goes from the other side", x.turn(5 - i % 3, i), 9 - i);
    }

    @Says("W - 1 - s; no more")
    static void p10NoMore() {
        LacePins x = made(IDLE);
        due("mirror", x.mirror(), 4);
        due("the HAND stays", x.count(6), 4);
        threads(x, 0, 1, 2, 3, 4, 5, 6, 7, 8, 9);
        due("THE PAPER stays", x.paper(0), '(');
        due("LISTS stay", x.get(0, 1), 0);
        due("THE TAPE stays", x.count(4), 6);
        due("mirror", x.mirror(), 4);
        same("twice MIRRORED", traces(x), traces(made(IDLE)));
    }

    // ---- 11 even

    @Says("Whether it is EVEN: 1, 0")
    static void p11NoPins() {
        for (int w = 2; w <= 12; w++) due("W " + w, made(loom(w)).even(), 1);
    }

    @Says("each PIN has one with that ROW, SLOT and STITCH")
    static void p11ItsOwnLike() {
        for (int w = 2; w <= 12; w++) {
            for (int s = 0; s <= w - 2; s++) {
                LacePins x = made(loom(w));
                x.pin(0, s, 0);
                due("one PIN at " + s + " of " + w, x.even(), 2 * s == w - 2 ? 1 : 0);
            }
        }
    }

    @Says("each PIN has one with that ROW, SLOT and STITCH")
    static void p11RowSlotStitch() {
        due("alike", twoPins(5, 4, HALF).even(), 1);
        due("another ROW", twoPins(6, 4, HALF).even(), 0);
        due("another SLOT", twoPins(5, 3, HALF).even(), 0);
        due("another STITCH", twoPins(5, 4, TWIST).even(), 0);
    }

    private static LacePins twoPins(int row, int slot, int stitch) {
        return made(x -> {
            x.pin(5, 0, HALF);
            x.pin(row, slot, stitch);
        });
    }

    @Says("each TURN one")
    static void p11Turns() {
        LacePins x = new LacePins();
        x.turn(1, 50);
        due("one TURN", x.even(), 0);
        x.turn(4, 51);
        due("of another ROW", x.even(), 0);
        x.turn(4, 51);
        x.turn(3, 50);
        due("of another SLOT", x.even(), 0);
        x.turn(3, 50);
        x.turn(4, 50);
        due("alike", x.even(), 1);
        LacePins y = made(loom(5));
        y.turn(2, 0);
        due("the SLOT in the middle", y.even(), 1);
    }

    @Says("all is FILLED alike")
    static void p11Filled() {
        LacePins x = new LacePins();
        x.fill(0, false);
        due("one is EMPTY", x.even(), 0);
        x.fill(5, false);
        due("alike", x.even(), 1);
        LacePins y = made(loom(3));
        y.fill(1, false);
        due("the SLOT in the middle", y.even(), 1);
    }

    @Says("EVEN goes by PINS that are DONE, too.")
    static void p11DoneToo() {
        LacePins x = twoPins(5, 4, HALF);
        x.work(0);
        due("one is DONE", x.even(), 1);
        x.work(1);
        due("all are DONE", x.even(), 1);
        LacePins y = twoPins(5, 4, TWIST);
        y.work(0);
        due("one is DONE", y.even(), 0);
        y.work(1);
        due("all are DONE", y.even(), 0);
    }

    @Says("what is asked changes nothing")
    static void p11AsksOnly() {
        leavesAll(BUSY, "even", x -> x.even());
        leavesAll(IDLE, "even", x -> x.even());
    }
}
