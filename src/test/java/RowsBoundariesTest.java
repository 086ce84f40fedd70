/** Promises 36 to 41: each sentence that names a boundary case. */
public final class RowsBoundariesTest extends Boundaries {
    private static final Setup IDLE = RowsBoundariesTest::idle, BUSY = RowsBoundariesTest::busy;

    public static void main(String[] args) throws Exception {
        run(RowsBoundariesTest.class, 36, 41);
    }

    // ---- 36 list

    @Says("NONE: list; BAD: n above 30; BELOW")
    static void p36NoSuchList() {
        for (int list : outside(0, 3)) leavesAll(BUSY, "list " + list, x -> x.list(list, 3), NONE);
    }

    @Says("NONE: list; BAD: n above 30; BELOW")
    static void p36AboveThirty() {
        for (int n : above(30)) leavesAll(BUSY, "n " + n, x -> x.list(0, n), BAD);
        leavesAll(BUSY, "one that holds nothing", x -> x.list(3, 31), BAD);
    }

    @Says("BELOW (-14): a size below 0")
    static void p36BelowZero() {
        for (int n : below(0)) leavesAll(BUSY, "n " + n, x -> x.list(0, n), BELOW);
        leavesAll(BUSY, "one that holds nothing", x -> x.list(3, -1), BELOW);
    }

    @Says("the first that a call's words name")
    static void p36OrderOfAnswers() {
        due("NONE ahead of BAD", made(BUSY).list(4, 31), NONE);
        due("NONE ahead of BELOW", made(BUSY).list(-1, -1), NONE);
    }

    @Says("a row of 0 .. 30 longs")
    static void p36LeastAndMost() {
        for (int list = 0; list <= 3; list++) {
            LacePins x = new LacePins();
            due("of no longs", x.list(list, 0), 1);
            due("no place, but not NOTHING", x.set(list, 0, 1), BEYOND);
            due("get", x.get(list, 0), NO);
            due("of thirty", x.list(list, 30), 1);
            due("the last place", x.set(list, 29, 7), 1);
            due("none behind it", x.set(list, 30, 7), BEYOND);
            due("of one", x.list(list, 1), 1);
            due("its place", x.get(list, 0), 0);
            due("none behind it", x.get(list, 1), NO);
        }
    }

    @Says("A LIST becomes a row of n longs, all 0: 1")
    static void p36AllZeroAnew() {
        LacePins x = new LacePins();
        for (int n : new int[] {30, 30, 5, 30, 0, 30}) {
            due("n " + n, x.list(2, n), 1);
            for (int i = 0; i < n; i++) due("place " + i, x.get(2, i), 0);
            for (int i = 0; i < n; i++) x.set(2, i, -1 - i);
        }
    }

    @Says("LISTS 0 .. 3")
    static void p36OtherListsStay() {
        LacePins x = new LacePins();
        for (int list = 0; list <= 3; list++) x.list(list, 30);
        for (int list = 0; list <= 3; list++) {
            for (int i = 0; i < 30; i += 29) x.set(list, i, 10 * list + i);
        }
        due("list", x.list(1, 30), 1);
        for (int list = 0; list <= 3; list++) {
            for (int i = 0; i < 30; i += 29) due("get", x.get(list, i), list == 1 ? 0 : 10 * list + i);
        }
    }

    // ---- 37 set

    @Says("NONE; NOTHING; BEYOND")
    static void p37NoSuchList() {
        for (int list : outside(0, 3)) leavesAll(BUSY, "list " + list, x -> x.set(list, 0, 5), NONE);
    }

    @Says("NOTHING (-11): there is none")
    static void p37NothingThere() {
        for (int list = 0; list <= 3; list++) {
            int asked = list;
            leavesAll(NEW, "list " + list, x -> x.set(asked, 0, 5), NOTHING);
        }
    }

    @Says("BEYOND (-13): no such place")
    static void p37NoSuchPlace() {
        for (int i : outside(0, 11)) leavesAll(BUSY, "place " + i, x -> x.set(0, i, 5), BEYOND);
        leavesAll(BUSY, "of no longs", x -> x.set(1, 0, 5), BEYOND);
        leavesAll(x -> x.list(0, 30), "place 30", x -> x.set(0, 30, 5), BEYOND);
    }

    @Says("the first that a call's words name")
    static void p37OrderOfAnswers() {
        due("NONE ahead of BEYOND", made(BUSY).set(4, -1, 5), NONE);
        due("NOTHING ahead of BEYOND", made(BUSY).set(3, -1, 5), NOTHING);
        due("NOTHING ahead of BEYOND", made(BUSY).set(3, 30, 5), NOTHING);
    }

    @Says("Place i of a LIST becomes v: 1")
    static void p37LeastAndMost() {
        long[] values = {Long.MAX_VALUE, Long.MIN_VALUE + 1, Long.MIN_VALUE, 1L << 32, -1, 0};
        LacePins x = made(y -> y.list(3, 30));
        for (long v : values) {
            due("the first place", x.set(3, 0, v), 1);
            due("the last place", x.set(3, 29, v), 1);
            due("first", x.get(3, 0), v);
            due("last", x.get(3, 29), v);
            due("between", x.get(3, 1), 0);
            due("between", x.get(3, 28), 0);
        }
    }

    // ---- 38 get

    @Says("NO: no such LIST, nothing there, no such place")
    static void p38NoSuchList() {
        for (int list : outside(0, 3)) leavesAll(BUSY, "list " + list, x -> x.get(list, 0), NO);
    }

    @Says("NO: no such LIST, nothing there, no such place")
    static void p38NothingThere() {
        for (int list = 0; list <= 3; list++) {
            int asked = list;
            leavesAll(NEW, "list " + list, x -> x.get(asked, 0), NO);
            due("place 29", new LacePins().get(list, 29), NO);
        }
    }

    @Says("NO: no such LIST, nothing there, no such place")
    static void p38NoSuchPlace() {
        for (int i : outside(0, 2)) leavesAll(BUSY, "place " + i, x -> x.get(2, i), NO);
        due("of no longs", made(BUSY).get(1, 0), NO);
        due("one that was there", made(then(BUSY, x -> x.list(0, 1))).get(0, 1), NO);
        due("place 30", made(x -> x.list(0, 30)).get(0, 30), NO);
    }

    @Says("what is asked changes nothing")
    static void p38AsksOnly() {
        leavesAll(BUSY, "get", x -> x.get(0, 3));
    }

    // ---- 39 count

    @Says("7 HANGS, 8 OUTS. NONE")
    static void p39NoSuchWhat() {
        for (int what : outside(0, 8)) leavesAll(BUSY, "count " + what, x -> x.count(what), NONE);
    }

    @Says("What 0 W, 1 PINS, 2 TURNS, 3 DONE, 4 bytes of THE TAPE, 5 of THE PAPER, 6 where the HAND is, 7 HANGS, 8 OUTS")
    static void p39Least() {
        LacePins x = made(loom(2));
        due("W", x.count(0), 2);
        for (int what = 1; what <= 8; what++) due("count " + what, x.count(what), 0);
    }

    @Says("What 0 W, 1 PINS, 2 TURNS, 3 DONE, 4 bytes of THE TAPE, 5 of THE PAPER, 6 where the HAND is, 7 HANGS, 8 OUTS")
    static void p39Most() {
        LacePins x = made(loom(12));
        for (int p = 0; p < 30; p++) x.pin(p, p % 11, 0);
        for (int t = 0; t < 10; t++) x.turn(t, 99);
        for (int i = 0; i < 120; i++) x.feed('f');
        x.draft(0);
        x.workAll();
        x.hand(11);
        int[] want = {12, 30, 10, 30, 120, 12, 11, 0, 10};
        for (int what = 0; what <= 8; what++) due("count " + what, x.count(what), want[what]);
        for (int n = 0; n < 30; n++) x.undo();
        for (int s = 0; s < 10; s++) x.fill(s, false);
        due("HANGS", x.count(7), 10);
        due("OUTS", x.count(8), 0);
    }

    @Says("What 0 W, 1 PINS, 2 TURNS, 3 DONE, 4 bytes of THE TAPE, 5 of THE PAPER, 6 where the HAND is, 7 HANGS, 8 OUTS")
    static void p39EachOther() {
        int[] want = {5, 4, 4, 2, 6, 5, 2, 2, 2};
        for (int what = 0; what <= 8; what++) due("count " + what, made(BUSY).count(what), want[what]);
    }

    @Says("what is asked changes nothing")
    static void p39AsksOnly() {
        for (int what = 0; what <= 8; what++) {
            int asked = what;
            leavesAll(BUSY, "count " + what, x -> x.count(asked));
        }
    }

    // ---- 40 image

    @Says("THE IMAGE is taken: how many PINS")
    static void p40NoneAndThirty() {
        due("no PINS", new LacePins().image(), 0);
        due("thirty", made(chain(30)).image(), 30);
        due("while two are DONE", made(BUSY).image(), 4);
    }

    @Says("THE IMAGE is taken")
    static void p40TheLatest() {
        LacePins x = new LacePins();
        x.pin(7, 0, 0);
        x.image();
        x.pin(8, 0, 0);
        due("again", x.image(), 2);
        x.loom(2);
        due("the latest is there", x.restore(), 2);
        x.loom(3);
        due("of no PINS", x.image(), 0);
        x.pin(1, 1, 1);
        due("the latest is there", x.restore(), 0);
        due("W", x.count(0), 3);
    }

    @Says("THE IMAGE is taken")
    static void p40ChangesNothingElse() {
        LacePins x = made(BUSY);
        x.image();
        LacePins y = made(BUSY);
        for (int what = 0; what <= 8; what++) due("count " + what, x.count(what), y.count(what));
        due("DONE", x.pins(2), y.pins(2));
        for (int t = 0; t < 10; t++) due("where", x.where(t), y.where(t));
        due("undo", x.undo(), 1);
        due("undo", x.undo(), 0);
    }

    @Says("THE IMAGE: all of 1 (what can be UNDONE, too)")
    static void p40IsNotChangedByWhatComes() {
        LacePins x = made(then(BUSY, y -> y.image()));
        x.undo();
        x.undo();
        x.turn(4, 6);
        x.turn(1, 9);
        x.stitch(0, CROSS);
        x.mirror();
        x.drop();
        x.fill(1, false);
        x.pin(0, 0, 0);
        x.workAll();
        x.hand(4);
        due("restore", x.restore(), 4);
        same("as it was", traces(x), traces(made(then(BUSY, y -> y.image()))));
    }

    // ---- 41 restore

    @Says("All is as THE IMAGE: how many PINS. STATE: there is none")
    static void p41ThereIsNone() {
        leavesAll(NEW, "restore", x -> x.restore(), STATE);
        leavesAll(chain(3), "restore", x -> x.restore(), STATE);
        leavesAll(then(chain(3), loom(5)), "behind loom", x -> x.restore(), STATE);
    }

    @Says("All is as THE IMAGE: how many PINS")
    static void p41NoneAndThirty() {
        LacePins x = made(y -> y.image());
        for (int p = 0; p < 5; p++) x.pin(p, 0, 0);
        due("no PINS", x.restore(), 0);
        due("none is there", x.count(1), 0);
        LacePins z = made(then(chain(30), y -> {
            y.workAll();
            y.image();
            y.loom(12);
        }));
        due("thirty", z.restore(), 30);
        due("DONE", z.count(3), 30);
        for (int n = 29; n >= 0; n--) due("undo", z.undo(), n);
        threads(z, 0, 1, 2, 3);
        for (int t = 0; t < 4; t++) due("overs", z.overs(t), 0);
        for (int p = 0; p < 30; p++) due("STITCH", z.of(p, 2), p % 5);
        due("nothing more to undo", z.undo(), STATE);
    }

    @Says("THE IMAGE: all of 1 (what can be UNDONE, too)")
    static void p41WhatCanBeUndone() {
        LacePins x = made(BUSY);
        x.image();
        x.undo();
        x.undo();
        due("none is DONE", x.undo(), STATE);
        due("restore", x.restore(), 4);
        due("DONE", x.pins(2), 0b0011);
        due("the HAND", x.count(6), 2);
        due("undo", x.undo(), 1);
        due("the HAND ahead of it", x.count(6), 3);
        due("undo", x.undo(), 0);
        due("the HAND ahead of it", x.count(6), 4);
        threads(x, 0, 1, 2, 3, 4, 5, 6, 7, 8, 9);
        LacePins z = made(then(BUSY, a -> a.image()));
        for (int n = 1; n >= 0; n--) due("undo", z.undo(), n);
        z.hand(0);
        z.work(0);
        z.hand(0);
        z.work(1);
        z.hand(0);
        due("others were WORKED since", z.restore(), 4);
        int[] hands = {3, 4};
        int[] worked = {0, 1};
        for (int i = 0; i < 2; i++) {
            due("undo", z.undo(), 1 - i);
            due("that one", z.of(worked[i], 3), 0);
            due("the HAND ahead of it", z.count(6), hands[i]);
        }
        LacePins y = made(IDLE);
        y.workAll();
        due("an IMAGE of none DONE", y.restore(), 4);
        due("nothing can be UNDONE", y.undo(), STATE);
    }

    @Says("All is as THE IMAGE: how many PINS")
    static void p41FromLeastToMost() {
        LacePins x = made(loom(12));
        x.pin(99, 10, WHOLE);
        x.turn(11, 99);
        x.fill(0, false);
        x.hand(11);
        x.image();
        x.loom(2);
        x.pin(0, 0, 0);
        due("restore", x.restore(), 1);
        due("W", x.count(0), 12);
        due("the HAND", x.count(6), 11);
        due("ROW", x.of(0, 0), 99);
        due("SLOT", x.of(0, 1), 10);
        due("FILLED at first", x.filled(0, 0), 0);
        due("ahead of the TURN", x.filled(11, 98), 1);
        due("at the TURN", x.filled(11, 99), 0);
        for (int t = 0; t < 24; t++) due("where", x.where(t), t);
    }

    @Says("All is as THE IMAGE: how many PINS")
    static void p41AllThreads() {
        LacePins x = made(loom(12));
        for (int p = 0; p < 6; p++) x.pin(0, 2 * p, WHOLE);
        x.workAll();
        x.image();
        x.loom(2);
        x.loom(12);
        due("restore", x.restore(), 6);
        int[] overs = {1, 2, 1, 2};
        for (int t = 0; t < 24; t++) {
            due("where " + t, x.where(t), t - t % 4 + 3 - t % 4);
            due("overs " + t, x.overs(t), overs[t % 4]);
        }
    }

    @Says("All is as THE IMAGE: how many PINS")
    static void p41AgainAndAgain() {
        LacePins x = made(BUSY);
        for (int i = 0; i < 3; i++) {
            due("restore", x.restore(), 4);
            due("DONE", x.count(3), 0);
            due("work", x.work(0), 1);
            due("a PIN may not come", x.pin(0, 0, 0), STATE);
        }
    }

    @Says("THE IMAGE: all of 1")
    static void p41TapePaperListsStay() {
        LacePins x = made(BUSY);
        due("feed", x.feed(';'), 7);
        due("draft", x.draft(99), 5);
        due("set", x.set(0, 0, 44), 1);
        due("list", x.list(3, 2), 1);
        due("restore", x.restore(), 4);
        due("bytes of THE TAPE", x.count(4), 7);
        same("THE PAPER", paperOf(x), "|||||");
        due("LIST 0", x.get(0, 0), 44);
        due("LIST 3", x.set(3, 1, 0), 1);
        due("THE TAPE is told", x.pricking(), -107);
    }
}
