/** Promises 12 to 22: each sentence that names a boundary case. */
public final class WorkBoundariesTest extends Boundaries {
    private static final Setup IDLE = WorkBoundariesTest::idle, BUSY = WorkBoundariesTest::busy;
    private static final long THIRTY = (1L << 30) - 1;

    public static void main(String[] args) throws Exception {
        run(WorkBoundariesTest.class, 12, 22);
    }

    private static LacePins pins(int... rowSlot) {
        LacePins x = new LacePins();
        for (int i = 0; i < rowSlot.length; i += 2) x.pin(rowSlot[i], rowSlot[i + 1], CROSS);
        return x;
    }

    /** Six PINS in each of five ROWS, side by side: none NEEDS one of its own ROW. */
    private static void fiveRows(LacePins x) {
        x.loom(12);
        for (int p = 0; p < 30; p++) x.pin(10 * (p / 6), 2 * (p % 6), p % 5);
    }

    // ---- 12 needs

    @Says("(one, two, or none)")
    static void p12None() {
        due("the only PIN", pins(5, 2).needs(0, 0), 0);
        due("others share no SLOT", pins(5, 2, 4, 0, 4, 4).needs(0, 0), 0);
        due("others are of greater ROWS", pins(5, 2, 6, 2, 99, 1).needs(0, 0), 0);
    }

    @Says("(one, two, or none)")
    static void p12One() {
        due("by its first SLOT", pins(5, 2, 4, 1).needs(0, 0), 0b10);
        due("by its second SLOT", pins(5, 2, 4, 3).needs(0, 0), 0b10);
        due("by both SLOTS the same", pins(5, 2, 4, 2).needs(0, 0), 0b10);
    }

    @Says("(one, two, or none)")
    static void p12Two() {
        due("of one ROW", pins(5, 2, 4, 1, 4, 3).needs(0, 0), 0b110);
        due("of two ROWS", pins(5, 2, 0, 1, 4, 3).needs(0, 0), 0b110);
    }

    @Says("the PIN of the greatest ROW below its own that shares that SLOT")
    static void p12GreatestRowBelow() {
        due("the one ROW ahead", pins(98, 2, 99, 2).needs(1, 0), 0b01);
        due("ROW 0 from ROW 99", pins(0, 2, 99, 2).needs(1, 0), 0b01);
        due("not its own ROW", pins(5, 2, 5, 4, 5, 0).needs(0, 0), 0);
        due("the greatest, told first", pins(4, 2, 3, 2, 5, 2).needs(2, 0), 0b001);
        due("the greatest, told last", pins(5, 2, 3, 2, 4, 2).needs(0, 0), 0b100);
        due("one hides the other in one SLOT", pins(5, 2, 4, 2, 3, 3).needs(0, 0), 0b010);
        due("not hidden in the other SLOT", pins(5, 2, 4, 1, 3, 2).needs(0, 0), 0b110);
    }

    @Says("It NEEDS those, and what they NEED")
    static void p12WhatTheyNeed() {
        LacePins x = made(chain(30));
        due("the first", x.needs(0, 1), 0);
        due("the second", x.needs(1, 1), 1);
        due("the last", x.needs(29, 1), THIRTY >> 1);
        due("the last, directly", x.needs(29, 0), 1L << 28);
    }

    @Says("that NEED it (2)")
    static void p12ThatNeedIt() {
        LacePins x = made(chain(30));
        due("the first", x.needs(0, 2), THIRTY - 1);
        due("the last", x.needs(29, 2), 0);
        due("the last but one", x.needs(28, 2), 1L << 29);
        LacePins y = pins(9, 2, 8, 2, 7, 2);
        due("the first by number NEEDS it, too", y.needs(2, 2), 0b011);
        due("it alone", y.needs(1, 2), 0b001);
    }

    @Says("A PIN NEEDS directly")
    static void p12AsItIsNow() {
        LacePins x = pins(9, 2, 8, 2, 7, 2);
        due("ahead of drop", x.needs(0, 1), 0b110);
        due("DEPTH", x.of(0, 4), 2);
        x.drop();
        due("one went", x.needs(0, 1), 0b010);
        due("DEPTH", x.of(0, 4), 1);
        x.drop();
        due("both went", x.needs(0, 1), 0);
        due("both went, directly", x.needs(0, 0), 0);
        due("DEPTH", x.of(0, 4), 0);
        due("deepest", x.deepest(), 0);
        x.pin(8, 3, 0);
        due("another came", x.needs(0, 0), 0b010);
        x.mirror();
        due("MIRRORED", x.needs(0, 0), 0b010);
    }

    @Says("NO: pin, what")
    static void p12NoSuchPin() {
        for (int what = 0; what <= 2; what++) {
            int asked = what;
            for (int pin : outside(0, 3)) leavesAll(BUSY, "pin " + pin, x -> x.needs(pin, asked), NO);
            due("no PINS", new LacePins().needs(0, what), NO);
            due("pin 30", made(chain(30)).needs(30, what), NO);
        }
    }

    @Says("NO: pin, what")
    static void p12NoSuchWhat() {
        for (int what : outside(0, 2)) leavesAll(BUSY, "what " + what, x -> x.needs(0, what), NO);
        due("neither", made(BUSY).needs(4, 3), NO);
    }

    @Says("what is asked changes nothing")
    static void p12AsksOnly() {
        for (int what = 0; what <= 2; what++) {
            int asked = what;
            leavesAll(BUSY, "needs " + what, x -> x.needs(2, asked));
        }
    }

    // ---- 13 pins

    @Says("PINS (bits) that LACK a pair (what 0), that are READY (1), DONE (2)")
    static void p13NoneAndThirty() {
        for (int what = 0; what <= 2; what++) due("no PINS", new LacePins().pins(what), 0);
        LacePins x = made(WorkBoundariesTest::fiveRows);
        due("none LACKS", x.pins(0), 0);
        due("the first ROW is READY", x.pins(1), 0b111111);
        for (int s = 0; s < 12; s += 2) x.fill(s, false);
        due("all LACK", x.pins(0), THIRTY);
        due("none is READY", x.pins(1), 0);
        for (int s = 0; s < 12; s += 2) x.fill(s, true);
        x.workAll();
        due("all are DONE", x.pins(2), THIRTY);
        due("none is READY", x.pins(1), 0);
    }

    @Says("One is READY, if it isn't DONE, LACKS none, and all that it NEEDS are DONE")
    static void p13Ready() {
        LacePins x = pins(5, 2, 4, 1, 4, 3);
        due("two are needed", x.pins(1), 0b110);
        x.work(1);
        due("one of two is DONE", x.pins(1), 0b100);
        x.work(2);
        due("both are DONE", x.pins(1), 0b001);
        x.work(0);
        due("it is DONE itself", x.pins(1), 0);
        LacePins y = pins(4, 2, 5, 2, 6, 2);
        y.turn(2, 5);
        y.turn(2, 6);
        due("one LACKS", y.pins(0), 0b010);
        y.work(0);
        due("none is READY: one LACKS, one NEEDS that", y.pins(1), 0);
    }

    @Says("NO: what")
    static void p13NoSuchWhat() {
        for (int what : outside(0, 2)) leavesAll(BUSY, "what " + what, x -> x.pins(what), NO);
    }

    @Says("what is asked changes nothing")
    static void p13AsksOnly() {
        for (int what = 0; what <= 2; what++) {
            int asked = what;
            leavesAll(BUSY, "pins " + what, x -> x.pins(asked));
        }
    }

    // ---- 14 deepest

    @Says("The greatest DEPTH; -5: no PINS")
    static void p14NoPins() {
        due("a new object", new LacePins().deepest(), NOT_ANY);
        due("behind loom", made(then(chain(3), loom(6))).deepest(), NOT_ANY);
        due("behind drop", made(then(chain(1), x -> x.drop())).deepest(), NOT_ANY);
        leavesAll(NEW, "deepest", x -> x.deepest(), NOT_ANY);
    }

    @Says("DEPTH: 0, if it NEEDS none")
    static void p14LeastAndMost() {
        due("one PIN", made(chain(1)).deepest(), 0);
        due("six side by side", pins(5, 0, 5, 2, 5, 4).deepest(), 0);
        due("two", made(chain(2)).deepest(), 1);
        due("thirty", made(chain(30)).deepest(), 29);
        due("the deepest is told first", pins(9, 2, 8, 2, 7, 2, 9, 4).deepest(), 2);
    }

    @Says("The greatest DEPTH")
    static void p14DoneToo() {
        LacePins x = made(then(chain(30), y -> y.workAll()));
        due("all are DONE", x.deepest(), 29);
    }

    @Says("what is asked changes nothing")
    static void p14AsksOnly() {
        leavesAll(BUSY, "deepest", x -> x.deepest());
    }

    // ---- 15 work

    @Says("NONE; STATE: it isn't READY")
    static void p15NoSuchPin() {
        for (int pin : outside(0, 3)) leavesAll(BUSY, "pin " + pin, x -> x.work(pin), NONE);
        leavesAll(NEW, "no PINS", x -> x.work(0), NONE);
        leavesAll(then(chain(2), x -> x.drop()), "one that went", x -> x.work(1), NONE);
        due("pin 30", made(chain(30)).work(30), NONE);
    }

    @Says("NONE; STATE: it isn't READY")
    static void p15IsDone() {
        leavesAll(BUSY, "the first that was WORKED", x -> x.work(1), STATE);
        leavesAll(BUSY, "the last that was WORKED", x -> x.work(0), STATE);
    }

    @Says("NONE; STATE: it isn't READY")
    static void p15LacksAPair() {
        for (int slot = 0; slot <= 1; slot++) {
            int empty = slot;
            leavesAll(then(chain(1), x -> x.fill(empty, false)), "EMPTY " + slot, x -> x.work(0), STATE);
        }
        leavesAll(then(chain(1), x -> x.turn(1, 0)), "EMPTY from its ROW on", x -> x.work(0), STATE);
        due("EMPTY behind it", made(then(chain(1), x -> x.turn(1, 1))).work(0), 1);
    }

    @Says("NONE; STATE: it isn't READY")
    static void p15NeedsWhatIsNotDone() {
        leavesAll(then(BUSY, x -> x.undo()), "one of two isn't DONE", x -> x.work(2), STATE);
        leavesAll(IDLE, "both aren't DONE", x -> x.work(2), STATE);
        leavesAll(then(chain(30), x -> x.work(0)), "what it NEEDS NEEDS others", x -> x.work(29), STATE);
    }

    @Says("A PIN is WORKED: how many are DONE")
    static void p15OneToThirty() {
        LacePins x = made(chain(30));
        for (int p = 0; p < 30; p++) due("work", x.work(p), p + 1);
        due("none is left", x.work(29), STATE);
        due("DONE", x.count(3), 30);
    }

    @Says("of SLOT s left, right, of SLOT s + 1 left, right")
    static void p15FirstAndLastSlots() {
        LacePins x = made(loom(12));
        x.pin(0, 0, WHOLE);
        x.pin(0, 10, WHOLE);
        x.work(0);
        x.work(1);
        threads(x, 3, 2, 1, 0, 4, 5, 6, 7, 8, 9, 10, 11, 12, 13, 14, 15, 16, 17, 18, 19, 23, 22, 21, 20);
        LacePins y = made(loom(2));
        y.pin(0, 0, CLOTH);
        y.work(0);
        threads(y, 2, 3, 0, 1);
    }

    @Says("STITCHES by ACTS: cross C; twist T; half C T; cloth C T C; whole C T C T")
    static void p15EachStitch() {
        int[][] want = {{0, 2, 1, 3}, {1, 0, 3, 2}, {2, 0, 3, 1}, {2, 3, 0, 1}, {3, 2, 1, 0}};
        for (int s = 0; s <= 4; s++) {
            LacePins x = made(loom(2));
            x.pin(0, 0, s);
            due("work", x.work(0), 1);
            threads(x, want[s]);
        }
    }

    @Says("and at the PIN's then")
    static void p15TheHand() {
        LacePins x = made(loom(12));
        x.pin(0, 10, 0);
        x.pin(1, 0, 0);
        x.hand(11);
        x.work(0);
        due("at the last", x.count(6), 10);
        x.work(1);
        due("at the first", x.count(6), 0);
    }

    // ---- 16 workAll

    @Says("and so on, till none is: how many were")
    static void p16None() {
        leavesAll(NEW, "no PINS", x -> x.workAll(), 0);
        leavesAll(then(chain(3), x -> x.fill(0, false)), "the first LACKS", x -> x.workAll(), 0);
        leavesAll(then(chain(3), x -> x.workAll()), "all are DONE", x -> x.workAll(), 0);
    }

    @Says("and so on, till none is: how many were")
    static void p16Thirty() {
        due("in a chain", made(chain(30)).workAll(), 30);
        due("side by side", made(WorkBoundariesTest::fiveRows).workAll(), 30);
        due("from one that is DONE on", made(then(chain(30), x -> x.work(0))).workAll(), 29);
        LacePins x = made(then(chain(30), y -> y.turn(0, 29)));
        due("the last LACKS", x.workAll(), 29);
        due("DONE", x.count(3), 29);
    }

    @Says("Of PINS that are READY that of the least ROW, of like ones of the least SLOT, is WORKED")
    static void p16LeastRowThenLeastSlot() {
        LacePins x = pins(5, 4, 5, 0, 4, 2, 99, 2);
        due("all", x.workAll(), 4);
        int[] last = {2, 4, 0, 2};
        for (int i = 0; i < 4; i++) {
            due("the HAND", x.count(6), last[i]);
            x.undo();
        }
        LacePins z = pins(5, 0, 5, 4, 5, 2);
        due("all of one ROW", z.workAll(), 3);
        int[] slots = {4, 2, 0};
        for (int i = 0; i < 3; i++) {
            due("the HAND", z.count(6), slots[i]);
            z.undo();
        }
        LacePins y = pins(7, 0, 3, 4, 9, 2);
        y.fill(4, false);
        due("the least ROW isn't READY", y.workAll(), 2);
        due("the last", y.count(6), 2);
    }

    @Says("Each PIN that workAll() WORKED can be UNDONE by itself.")
    static void p16UndoneByItself() {
        LacePins x = made(then(chain(30), y -> y.workAll()));
        for (int n = 29; n >= 0; n--) {
            due("undo", x.undo(), n);
            due("that one isn't DONE", x.of(n, 3), 0);
            if (n > 0) due("the one ahead is", x.of(n - 1, 3), 1);
        }
        due("none is left", x.undo(), STATE);
        same("as ahead of it", traces(x), traces(made(chain(30))));
    }

    // ---- 17 undo

    @Says("UNDONE: how many are DONE. STATE: none is")
    static void p17NoneIs() {
        leavesAll(NEW, "no PINS", x -> x.undo(), STATE);
        leavesAll(IDLE, "none is DONE", x -> x.undo(), STATE);
        leavesAll(then(chain(1), x -> {
            x.work(0);
            x.undo();
        }), "none is left", x -> x.undo(), STATE);
        leavesAll(then(BUSY, loom(4)), "behind loom", x -> x.undo(), STATE);
    }

    @Says("the latest first (threads, OVERS, DONE, the HAND as they were)")
    static void p17AsTheyWere() {
        LacePins x = made(BUSY);
        due("the latest", x.undo(), 1);
        due("it isn't DONE", x.of(0, 3), 0);
        due("the first is", x.of(1, 3), 1);
        due("undo", x.undo(), 0);
        same("as ahead of all", traces(x), traces(made(IDLE)));
    }

    @Says("the latest first (threads, OVERS, DONE, the HAND as they were)")
    static void p17EachStitch() {
        for (int s = 0; s <= 4; s++) {
            int stitch = s;
            Setup first = x -> {
                x.loom(3);
                x.pin(0, 0, WHOLE);
                x.pin(1, 1, stitch);
                x.work(0);
            };
            LacePins x = made(then(first, y -> y.work(1)));
            due("undo", x.undo(), 1);
            same("STITCH " + s, traces(x), traces(made(first)));
        }
    }

    @Says("undo() leaves the HAND as it was ahead of that WORK, whatever hand() told since.")
    static void p17TheHand() {
        LacePins x = made(loom(12));
        x.pin(0, 10, 0);
        x.pin(1, 0, 0);
        x.hand(11);
        x.work(0);
        x.hand(5);
        x.work(1);
        x.hand(7);
        x.hand(8);
        x.undo();
        due("as ahead of the second", x.count(6), 5);
        x.hand(9);
        x.undo();
        due("as ahead of the first", x.count(6), 11);
        x.work(0);
        due("WORKED again", x.count(6), 10);
        x.undo();
        due("UNDONE again", x.count(6), 11);
    }

    @Says("UNDONE: how many are DONE. STATE: none is")
    static void p17BehindTheLast() {
        LacePins x = made(then(BUSY, y -> y.undo()));
        due("while one is DONE", x.turn(2, 2), STATE);
        x.undo();
        due("none is DONE", x.turn(2, 2), 5);
        due("stitch", x.stitch(3, CROSS), TWIST);
        due("drop", x.drop(), 3);
    }

    // ---- 18 thread

    @Says("Thread in a SLOT, left (side 0), right (1). NONE")
    static void p18NoSuchSlot() {
        for (int slot : outside(0, 4)) {
            leavesAll(BUSY, "slot " + slot, x -> x.thread(slot, 0), NONE);
            due("slot " + slot, made(BUSY).thread(slot, 1), NONE);
        }
        due("slot 12", made(loom(12)).thread(12, 0), NONE);
        due("slot 2", made(loom(2)).thread(2, 1), NONE);
    }

    @Says("Thread in a SLOT, left (side 0), right (1). NONE")
    static void p18NoSuchSide() {
        for (int side : outside(0, 1)) leavesAll(BUSY, "side " + side, x -> x.thread(0, side), NONE);
        due("the last SLOT", made(BUSY).thread(4, 2), NONE);
    }

    @Says("Thread in a SLOT, left (side 0), right (1)")
    static void p18FirstAndLast() {
        for (int w = 2; w <= 12; w++) {
            LacePins x = made(loom(w));
            due("first", x.thread(0, 0), 0);
            due("last", x.thread(w - 1, 1), 2 * w - 1);
        }
    }

    @Says("what is asked changes nothing")
    static void p18AsksOnly() {
        leavesAll(BUSY, "thread", x -> x.thread(2, 1));
    }

    // ---- 19 where

    @Says("2 times the SLOT, and 1 more, if it is right. NONE")
    static void p19NoSuchThread() {
        for (int t : outside(0, 9)) leavesAll(BUSY, "where " + t, x -> x.where(t), NONE);
        due("thread 24", made(loom(12)).where(24), NONE);
        due("thread 4", made(loom(2)).where(4), NONE);
        due("one of a greater W, behind loom", made(then(loom(12), loom(2))).where(5), NONE);
    }

    @Says("2 times the SLOT, and 1 more, if it is right")
    static void p19FirstAndLast() {
        LacePins x = made(loom(12));
        x.pin(0, 0, WHOLE);
        x.pin(0, 10, WHOLE);
        due("first", x.where(0), 0);
        due("last", x.where(23), 23);
        x.workAll();
        due("right in SLOT 1", x.where(0), 3);
        due("left in SLOT 0", x.where(3), 0);
        due("left in SLOT 10", x.where(23), 20);
        due("right in SLOT 11", x.where(20), 23);
    }

    @Says("what is asked changes nothing")
    static void p19AsksOnly() {
        leavesAll(BUSY, "where", x -> x.where(7));
    }

    // ---- 20 overs

    @Says("OVERS. NONE")
    static void p20NoSuchThread() {
        for (int t : outside(0, 9)) leavesAll(BUSY, "overs " + t, x -> x.overs(t), NONE);
        due("thread 24", made(loom(12)).overs(24), NONE);
        due("thread 4", made(loom(2)).overs(4), NONE);
        due("one of a greater W, behind loom", made(then(loom(12), loom(2))).overs(5), NONE);
    }

    @Says("C: b goes over c: a c b d. T: b goes over a, d over c: b a d c")
    static void p20EachStitch() {
        // C: 1 over 2; T alone: 1 over 0, 3 over 2; T behind C: 2 over 0, 3 over 1; then C: 0 over 3; T: 3 over 2, 1 over 0
        int[][] want = {{0, 1, 0, 0}, {0, 1, 0, 1}, {0, 1, 1, 1}, {1, 1, 1, 1}, {1, 2, 1, 2}};
        for (int s = 0; s <= 4; s++) {
            LacePins x = made(loom(2));
            x.pin(0, 0, s);
            x.work(0);
            for (int t = 0; t < 4; t++) due("STITCH " + s + ", overs " + t, x.overs(t), want[s][t]);
        }
    }

    @Says("OVERS of a thread: how often it went over another one")
    static void p20MostAndBack() {
        LacePins x = made(loom(2));
        for (int p = 0; p < 30; p++) x.pin(p, 0, TWIST);
        x.workAll();
        // by turns 1 goes over 0 and 0 over 1
        for (int t = 0; t < 4; t++) due("overs " + t, x.overs(t), 15);
        x.undo();
        int[] want = {14, 15, 14, 15};
        for (int t = 0; t < 4; t++) due("overs " + t, x.overs(t), want[t]);
        x.loom(2);
        for (int t = 0; t < 4; t++) due("behind loom", x.overs(t), 0);
    }

    @Says("what is asked changes nothing")
    static void p20AsksOnly() {
        leavesAll(BUSY, "overs", x -> x.overs(7));
    }

    // ---- 21 acts

    @Says("together: C (what 0), T (1). NONE")
    static void p21NoSuchWhat() {
        for (int what : outside(0, 1)) leavesAll(BUSY, "acts " + what, x -> x.acts(what), NONE);
    }

    @Says("How many ACTS the PINS that are DONE have")
    static void p21NoneIsDone() {
        due("no PINS", new LacePins().acts(0), 0);
        due("no PINS", new LacePins().acts(1), 0);
        due("none is DONE", made(IDLE).acts(0), 0);
        due("none is DONE", made(IDLE).acts(1), 0);
        due("cloth and whole are DONE", made(BUSY).acts(0), 4);
        due("cloth and whole are DONE", made(BUSY).acts(1), 3);
        due("whole is DONE", made(then(BUSY, x -> x.undo())).acts(1), 2);
        due("behind loom", made(then(BUSY, loom(5))).acts(0), 0);
    }

    @Says("by their STITCHES, together")
    static void p21EachStitchAndMost() {
        int[] crosses = {1, 0, 1, 2, 2}, twists = {0, 1, 1, 1, 2};
        for (int s = 0; s <= 4; s++) {
            LacePins x = made(loom(2));
            for (int p = 0; p < 30; p++) x.pin(p, 0, s);
            x.workAll();
            due("C of thirty, STITCH " + s, x.acts(0), 30 * crosses[s]);
            due("T of thirty, STITCH " + s, x.acts(1), 30 * twists[s]);
        }
    }

    @Says("what is asked changes nothing")
    static void p21AsksOnly() {
        leavesAll(BUSY, "acts", x -> x.acts(1));
    }

    // ---- 22 hand

    @Says("The HAND goes to a SLOT: where it was. NONE")
    static void p22NoSuchSlot() {
        for (int slot : outside(0, 4)) {
            leavesAll(BUSY, "hand " + slot, x -> x.hand(slot), NONE);
            due("hand " + slot, made(IDLE).hand(slot), NONE);
        }
        due("slot 12", made(loom(12)).hand(12), NONE);
        due("slot 2", made(loom(2)).hand(2), NONE);
    }

    @Says("The HAND goes to a SLOT: where it was")
    static void p22FirstAndLast() {
        for (int w = 2; w <= 12; w++) {
            LacePins x = made(loom(w));
            due("to the last, which no PIN is at", x.hand(w - 1), 0);
            due("to where it is", x.hand(w - 1), w - 1);
            due("to the first", x.hand(0), w - 1);
            due("there", x.count(6), 0);
        }
    }

    @Says("The HAND goes to a SLOT: where it was")
    static void p22WhileOneIsDone() {
        LacePins x = made(BUSY);
        due("it isn't refused", x.hand(4), 2);
        due("there", x.count(6), 4);
        due("DONE stays", x.count(3), 2);
    }

    @Says("The HAND goes to a SLOT: where it was")
    static void p22EmptySlot() {
        LacePins x = made(y -> y.fill(3, false));
        due("to one that is EMPTY", x.hand(3), 0);
        due("there", x.count(6), 3);
    }
}
