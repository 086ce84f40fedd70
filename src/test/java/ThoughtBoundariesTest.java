/** Promises 23 to 28: each sentence that names a boundary case. */
public final class ThoughtBoundariesTest extends Boundaries {
    private static final Setup IDLE = ThoughtBoundariesTest::idle, BUSY = ThoughtBoundariesTest::busy;

    public static void main(String[] args) throws Exception {
        run(ThoughtBoundariesTest.class, 23, 28);
    }

    /** PINS in two ROWS, six in each, side by side: each NEEDS one at most. */
    private static void twelve(LacePins x) {
        x.loom(12);
        for (int p = 0; p < 12; p++) x.pin(p / 6, 2 * (p % 6), CROSS);
    }

    /** PINS side by side in one ROW, by their SLOTS. */
    private static Setup side(int... slots) {
        return x -> {
            x.loom(12);
            for (int s : slots) x.pin(0, s, CROSS);
        };
    }

    /** LAWFUL ORDERS, the first and the last, LEAST TRAVEL and the order of it, as they are told now. */
    private static String thoughtOf(LacePins x) {
        int left = x.count(1) - x.count(3);
        long orders = x.orders();
        StringBuilder text = new StringBuilder(orders + " orders\ntravel " + x.travel());
        for (int i = 0; i < left; i++) {
            text.append('\n').append(x.order(0, i)).append(' ').append(x.order(orders - 1, i));
            text.append(' ').append(x.along(i));
        }
        return text.toString();
    }

    /** TURNS by SLOT and ROW. */
    private static LacePins turns(int w, int[] emptyAtFirst, int... slotRow) {
        LacePins x = made(loom(w));
        for (int s : emptyAtFirst) x.fill(s, false);
        for (int i = 0; i < slotRow.length; i += 2) x.turn(slotRow[i], slotRow[i + 1]);
        return x;
    }

    private static int[] empty(int... slots) {
        return slots;
    }

    private static void joined(LacePins x, int pairs, int joined, int apart) {
        due("PAIRS", x.pairs(0), pairs);
        due("JOINED", x.pairs(1), joined);
        due("differences", x.pairs(2), apart);
    }

    // ---- 23 orders

    @Says("one, of no PINS, with TRAVEL 0, if all are DONE or there are no PINS")
    static void p23NoneIsLeft() {
        due("no PINS", new LacePins().orders(), 1);
        due("all twelve are DONE", made(then(ThoughtBoundariesTest::twelve, x -> x.workAll())).orders(), 1);
        due("all thirty are DONE", made(then(chain(30), x -> x.workAll())).orders(), 1);
    }

    @Says("none, if one of them LACKS a pair")
    static void p23OneLacks() {
        due("the only PIN", made(then(chain(1), x -> x.fill(0, false))).orders(), 0);
        due("the first of two", made(then(side(0, 5), x -> x.fill(0, false))).orders(), 0);
        due("the last of twelve", made(then(ThoughtBoundariesTest::twelve, x -> x.turn(11, 1))).orders(), 0);
        due("an EMPTY SLOT of no PIN", made(then(side(0, 5), x -> x.fill(11, false))).orders(), 2);
        due("the others are DONE", made(then(chain(4), x -> {
            x.turn(0, 3);
            x.workAll();
        })).orders(), 0);
    }

    @Says("-3: more than twelve PINS aren't DONE")
    static void p23MoreThanTwelve() {
        due("twelve", made(chain(12)).orders(), 1);
        due("thirteen", made(chain(13)).orders(), -3);
        due("thirty", made(chain(30)).orders(), -3);
        LacePins x = made(chain(30));
        for (int p = 0; p < 17; p++) x.work(p);
        due("thirteen of thirty", x.orders(), -3);
        x.work(17);
        due("twelve of thirty", x.orders(), 1);
        x.undo();
        due("thirteen again", x.orders(), -3);
        LacePins y = made(z -> {
            for (int p = 0; p < 13; p++) z.pin(99 - p, 0, CROSS);
        });
        due("thirteen", y.orders(), -3);
        due("work", y.work(12), 1);
        due("the last by number is DONE", y.orders(), 1);
        leavesAll(chain(13), "orders", z -> z.orders(), -3);
    }

    @Says("-3: more than twelve PINS aren't DONE")
    static void p23MoreThanTwelveThoughOneLacks() {
        due("thirteen", made(then(chain(13), x -> x.fill(0, false))).orders(), -3);
    }

    @Says("each READY as it comes")
    static void p23MostOrders() {
        due("one PIN", made(chain(1)).orders(), 1);
        due("six that NEED none", made(side(0, 2, 4, 6, 8, 10)).orders(), 720);
        due("12! / 2^6", made(ThoughtBoundariesTest::twelve).orders(), 7484400);
    }

    @Says("LAWFUL ORDERS of all PINS that aren't DONE")
    static void p23AsThePinsAreNow() {
        Setup[] prickings = {
            ThoughtBoundariesTest::twelve, side(0, 5, 10), chain(12), side(0, 2, 4, 6, 8, 10), chain(2),
            ThoughtBoundariesTest::twelve, side(10, 0), then(side(0, 2), x -> x.pin(1, 1, CROSS)), side(3)};
        LacePins x = new LacePins();
        for (Setup pricking : prickings) {
            pricking.on(x);
            same("what was asked of other PINS is forgotten", thoughtOf(x), thoughtOf(made(pricking)));
        }
    }

    @Says("LAWFUL ORDERS of all PINS that aren't DONE")
    static void p23AsTheWorkIsNow() {
        Setup six = then(side(0, 2, 5, 9), x -> {
            x.pin(1, 1, CROSS);
            x.pin(1, 9, CROSS);
        });
        int[] work = {3, 0, 5, 2, 1, 4};
        long[] orders = {120, 40, 12, 3, 1, 1, 1};
        LacePins x = made(six), y = made(six);
        for (int n = 0; n < 6; n++) {
            due("orders of " + (6 - n), x.orders(), orders[n]);
            thoughtOf(x);
            x.work(work[n]);
        }
        for (int n = 6; n > 0; n--) {
            due("orders of " + (6 - n), x.orders(), orders[n]);
            thoughtOf(x);
            x.undo();
        }
        same("all is as at first", thoughtOf(x), thoughtOf(y));
    }

    @Says("what is asked changes nothing")
    static void p23AsksOnly() {
        leavesAll(BUSY, "orders", x -> x.orders());
    }

    // ---- 24 order

    @Says("STATE: more than twelve; NONE: k, i")
    static void p24MoreThanTwelve() {
        leavesAll(chain(13), "order", x -> x.order(0, 0), STATE);
        due("thirty", made(chain(30)).order(0, 0), STATE);
        due("one is DONE", made(then(chain(13), x -> x.work(0))).order(0, 0), 1);
    }

    @Says("STATE: more than twelve; NONE: k, i")
    static void p24NoSuchOrder() {
        long[] bad = {-1, 6, 7, Long.MIN_VALUE, Long.MAX_VALUE, 1L << 31, 1L << 32, -1L << 32, (1L << 32) + 5, LOW};
        Setup six = side(0, 5, 10);
        due("the last", made(six).order(5, 2), 0);
        for (long k : bad) leavesAll(six, "k " + k, x -> x.order(k, 0), NONE);
        due("behind all of twelve", made(ThoughtBoundariesTest::twelve).order(7484400, 0), NONE);
        due("the last of twelve", made(ThoughtBoundariesTest::twelve).order(7484399, 0), 5);
    }

    @Says("STATE: more than twelve; NONE: k, i")
    static void p24NoSuchPlace() {
        for (int i : outside(0, 2)) leavesAll(side(0, 5, 10), "i " + i, x -> x.order(0, i), NONE);
        due("of those that are left alone", made(BUSY).order(0, 2), NONE);
        due("the last of them", made(then(BUSY, x -> {
            x.undo();
            x.undo();
            x.drop();
        })).order(0, 2), 2);
    }

    @Says("STATE: more than twelve; NONE: k, i")
    static void p24StateAheadOfNone() {
        due("k", made(chain(13)).order(-1, 0), STATE);
        due("i", made(chain(13)).order(0, -1), STATE);
        due("both", made(chain(13)).order(1, 13), STATE);
    }

    @Says("none, if one of them LACKS a pair; one, of no PINS")
    static void p24NoneIsLawful() {
        due("one LACKS", made(then(chain(2), x -> x.fill(0, false))).order(0, 0), NONE);
        due("of no PINS", new LacePins().order(0, 0), NONE);
        due("all are DONE", made(then(chain(2), x -> x.workAll())).order(0, 0), NONE);
        due("no PINS, another k", new LacePins().order(1, 0), NONE);
    }

    @Says("The k-th order: by numbers of PINS, lesser ones ahead")
    static void p24ByNumbers() {
        same("three", ordersOf(made(side(0, 5, 10)), 6, 3), "abc acb bac bca cab cba");
        same("not by SLOTS", ordersOf(made(side(10, 0)), 2, 2), "ab ba");
        LacePins x = made(y -> {
            y.pin(9, 2, 0);
            y.pin(0, 2, 0);
            y.pin(0, 0, 0);
        });
        due("orders", x.orders(), 3);
        same("the first PIN NEEDS the second", ordersOf(x, 3, 3), "bac bca cba");
    }

    @Says("The i-th PIN of the k-th LAWFUL ORDER (both from 0)")
    static void p24FirstAndLast() {
        LacePins x = made(ThoughtBoundariesTest::twelve);
        for (int i = 0; i < 12; i++) due("the first order", x.order(0, i), i);
        int[] last = {5, 11, 4, 10, 3, 9, 2, 8, 1, 7, 0, 6};
        for (int i = 0; i < 12; i++) due("the last order", x.order(7484399, i), last[i]);
    }

    @Says("what is asked changes nothing")
    static void p24AsksOnly() {
        leavesAll(BUSY, "order", x -> x.order(0, 0));
    }

    // ---- 25 travel

    @Says("one, of no PINS, with TRAVEL 0, if all are DONE or there are no PINS")
    static void p25NoneIsLeft() {
        due("no PINS", new LacePins().travel(), 0);
        due("no PINS, the HAND elsewhere", made(x -> x.hand(5)).travel(), 0);
        due("all are DONE", made(then(side(0, 10), x -> {
            x.workAll();
            x.hand(0);
        })).travel(), 0);
    }

    @Says("LEAST TRAVEL; -5: there is no LAWFUL ORDER. STATE: more than twelve")
    static void p25NoLawfulOrder() {
        leavesAll(then(chain(2), x -> x.fill(1, false)), "one LACKS", x -> x.travel(), NOT_ANY);
        due("one of twelve", made(then(chain(12), x -> x.turn(0, 11))).travel(), NOT_ANY);
    }

    @Says("LEAST TRAVEL; -5: there is no LAWFUL ORDER. STATE: more than twelve")
    static void p25MoreThanTwelve() {
        due("twelve", made(chain(12)).travel(), 0);
        leavesAll(chain(13), "thirteen", x -> x.travel(), STATE);
        due("one is DONE", made(then(chain(13), x -> x.work(0))).travel(), 0);
    }

    @Says("(-5 is told only where none of them is)")
    static void p25StateAheadOfNoLawfulOrder() {
        due("thirteen, and one LACKS", made(then(chain(13), x -> x.fill(0, false))).travel(), STATE);
    }

    @Says("from where the HAND is to the SLOT of the first, and on: the differences, without sign, together")
    static void p25FromTheHand() {
        int[] want = {10, 11, 12, 13, 14, 15, 14, 13, 12, 11, 10, 11};
        for (int s = 0; s < 12; s++) {
            int at = s;
            due("from " + s, made(then(side(0, 10), x -> x.hand(at))).travel(), want[s]);
        }
        due("one PIN, where the HAND is", made(then(side(4), x -> x.hand(4))).travel(), 0);
        due("one PIN, to the left", made(then(side(4), x -> x.hand(11))).travel(), 7);
        due("from the PIN that was WORKED", made(then(side(0, 4, 10), x -> x.work(1))).travel(), 14);
    }

    @Says("LEAST TRAVEL")
    static void p25NeedsForceAWay() {
        LacePins x = made(loom(12));
        for (int p = 0; p < 6; p++) {
            x.pin(2 * p, 0, 0);
            x.pin(2 * p, 10, 0);
        }
        due("six times the one side, then the other", x.travel(), 10);
        LacePins y = made(loom(3));
        for (int p = 0; p < 12; p++) y.pin(p, p % 2, 0);
        due("to and fro", y.travel(), 11);
    }

    @Says("LEAST TRAVEL")
    static void p25AsThePinsAreNow() {
        LacePins x = made(side(0, 2));
        x.pin(1, 1, CROSS);
        due("there, and back", x.travel(), 3);
        x.drop();
        due("no more back", x.travel(), 2);
        x.pin(1, 0, CROSS);
        due("the other one of SLOT 0 on the way", x.travel(), 2);
        x.work(0);
        due("the same, from SLOT 0", x.travel(), 2);
        x.work(1);
        due("back to SLOT 0", x.travel(), 2);
        x.work(2);
        due("none is left", x.travel(), 0);
    }

    @Says("what is asked changes nothing")
    static void p25AsksOnly() {
        leavesAll(BUSY, "travel", x -> x.travel());
    }

    // ---- 26 along

    @Says("STATE: more than twelve, no LAWFUL ORDER; NONE: i")
    static void p26MoreThanTwelve() {
        leavesAll(chain(13), "along", x -> x.along(0), STATE);
        due("one is DONE", made(then(chain(13), x -> x.work(0))).along(11), 12);
    }

    @Says("STATE: more than twelve, no LAWFUL ORDER; NONE: i")
    static void p26NoLawfulOrder() {
        leavesAll(then(chain(2), x -> x.fill(1, false)), "along", x -> x.along(0), STATE);
    }

    @Says("STATE: more than twelve, no LAWFUL ORDER; NONE: i")
    static void p26NoSuchPlace() {
        for (int i : outside(0, 2)) leavesAll(side(0, 5, 10), "along " + i, x -> x.along(i), NONE);
        due("of twelve", made(chain(12)).along(12), NONE);
        due("of no PINS", new LacePins().along(0), NONE);
        due("all are DONE", made(then(chain(2), x -> x.workAll())).along(0), NONE);
    }

    @Says("STATE: more than twelve, no LAWFUL ORDER; NONE: i")
    static void p26StateAheadOfNone() {
        due("more than twelve", made(chain(13)).along(-1), STATE);
        due("no LAWFUL ORDER", made(then(chain(2), x -> x.fill(1, false))).along(2), STATE);
    }

    @Says("the order of it (of several the first)")
    static void p26OfSeveralTheFirst() {
        same("either way 15", alongOf(made(then(side(10, 0), x -> x.hand(5))), 2), "ab");
        same("either way 15", alongOf(made(then(side(0, 10), x -> x.hand(5))), 2), "ab");
        same("the right is nearer", alongOf(made(then(side(0, 10), x -> x.hand(6))), 2), "ba");
        same("the left is nearer", alongOf(made(then(side(10, 0), x -> x.hand(4))), 2), "ba");
        LacePins x = made(loom(4));
        for (int p = 0; p < 3; p++) {
            x.pin(20 - p, 2, 0);
            x.pin(30 - p, 0, 0);
        }
        same("where the HAND is first", alongOf(made(y -> {
            y.pin(5, 1, 0);
            y.pin(6, 1, 0);
            y.pin(4, 3, 0);
            y.hand(1);
        }), 3), "abc");
        due("six", x.travel(), 2);
        same("by numbers as far as they may", alongOf(x, 6), "fdbeca");
    }

    @Says("The i-th PIN of its order")
    static void p26Twelve() {
        LacePins x = made(ThoughtBoundariesTest::twelve);
        int[] want = {0, 6, 1, 7, 2, 8, 3, 9, 4, 10, 5, 11};
        for (int i = 0; i < 12; i++) due("along " + i, x.along(i), want[i]);
        LacePins y = made(chain(12));
        for (int i = 0; i < 12; i++) due("in a chain", y.along(i), i);
    }

    @Says("what is asked changes nothing")
    static void p26AsksOnly() {
        leavesAll(BUSY, "along", x -> x.along(0));
    }

    // ---- 27 pairs

    @Says("the differences of SLOTS together (2). NONE")
    static void p27NoSuchWhat() {
        for (int what : outside(0, 2)) leavesAll(BUSY, "pairs " + what, x -> x.pairs(what), NONE);
    }

    @Says("PAIRS: SLOTS FILLED at first, and HANGS that none is JOINED to")
    static void p27NoTurns() {
        for (int w = 2; w <= 12; w++) joined(turns(w, empty()), w, 0, 0);
        LacePins x = made(loom(12));
        for (int s = 0; s < 12; s++) x.fill(s, false);
        joined(x, 0, 0, 0);
    }

    @Says("An OUT may be JOINED to one HANG of a greater ROW")
    static void p27OfAGreaterRow() {
        joined(turns(6, empty(3), 2, 10, 3, 9), 6, 0, 0);
        joined(turns(6, empty(3), 2, 10, 3, 10), 6, 0, 0);
        joined(turns(6, empty(3), 2, 10, 3, 11), 5, 1, 1);
        joined(turns(12, empty(11), 0, 0, 11, 99), 11, 1, 11);
        joined(turns(6, empty(2), 3, 10, 2, 10), 6, 0, 0);
    }

    @Says("(each to one at most)")
    static void p27EachToOne() {
        joined(turns(6, empty(3, 4), 2, 10, 3, 11, 4, 11), 5, 1, 1);
        joined(turns(6, empty(3), 2, 10, 4, 9, 3, 11), 5, 1, 1);
        joined(turns(6, empty(2, 3), 0, 10, 1, 10, 2, 11, 3, 11), 4, 2, 4);
    }

    @Says("TURNS by which a SLOT becomes FILLED; OUTS: by which it becomes EMPTY")
    static void p27OfOneSlot() {
        joined(turns(6, empty(), 2, 10, 2, 11), 6, 1, 0);
        joined(turns(6, empty(2), 2, 10, 2, 11), 6, 0, 0);
        joined(turns(6, empty(2), 2, 10, 2, 11, 2, 12), 6, 1, 0);
        LacePins ten = made(loom(2));
        for (int i = 0; i < 10; i++) ten.turn(0, 90 + i);
        joined(ten, 2, 5, 0);
        ten.fill(0, false);
        joined(ten, 2, 4, 0);
    }

    @Says("As many are JOINED as can be")
    static void p27AsManyAsCanBe() {
        // the OUT of ROW 4 is of the SLOT of the HANG of ROW 9, but the HANG of ROW 5 has no other one
        joined(turns(12, empty(1), 11, 4, 1, 5, 11, 9, 0, 8), 11, 2, 21);
    }

    @Says("in which the differences of SLOTS, without sign, are least together")
    static void p27LeastTogether() {
        joined(turns(12, empty(2, 9), 1, 10, 8, 10, 2, 20, 9, 20), 10, 2, 2);
        joined(turns(12, empty(2, 9), 8, 10, 10, 11, 2, 20, 9, 20), 10, 2, 7);
        joined(turns(12, empty(5), 0, 10, 11, 11, 4, 12, 5, 20), 11, 1, 1);
    }

    @Says("in which the differences of SLOTS, without sign, are least together")
    static void p27TheNearerHang() {
        LacePins x = turns(12, empty(3, 9), 8, 5, 3, 10, 9, 11);
        joined(x, 11, 1, 1);
        due("the first HANG is farther", x.hang(0, 1), NOT_ANY);
        due("the second has the OUT", x.hang(1, 1), 805);
        LacePins y = turns(12, empty(1, 3, 9), 8, 5, 1, 10, 3, 11, 9, 12);
        joined(y, 11, 1, 1);
        due("the third has the OUT", y.hang(2, 1), 805);
    }

    @Says("(each to one at most)")
    static void p27NoOutTwice() {
        LacePins x = turns(12, empty(5, 4), 0, 1, 6, 2, 5, 9, 4, 10);
        joined(x, 10, 2, 5);
        due("the first HANG has the second OUT", x.hang(0, 1), 602);
        due("it would be nearer to the second HANG, too", x.hang(1, 1), 1);
    }

    @Says("PAIRS: SLOTS FILLED at first, and HANGS that none is JOINED to")
    static void p27AsTheTurnsAreNow() {
        LacePins x = turns(12, empty(11, 10, 9), 0, 1, 1, 2, 2, 3, 11, 9, 10, 9, 9, 9);
        joined(x, 9, 3, 27);
        x.turn(9, 9);
        joined(x, 9, 2, 18);
        x.turn(0, 1);
        x.turn(1, 2);
        joined(x, 10, 1, 8);
        due("the first HANG has it", x.hang(0, 1), 203);
        x.turn(2, 3);
        joined(x, 11, 0, 0);
        x.turn(5, 8);
        x.turn(8, 8);
        joined(x, 9, 2, 8);
        due("8 either way: the first HANG has the first", x.hang(0, 1), 508);
        due("the second the other", x.hang(1, 1), 808);
        LacePins y = turns(12, empty(5, 6, 7), 0, 1, 5, 9, 6, 9, 7, 9);
        joined(y, 11, 1, 5);
        y.turn(5, 9);
        y.turn(6, 9);
        joined(y, 9, 1, 7);
        LacePins z = turns(12, empty(0, 3, 9), 8, 5, 4, 6, 0, 10, 3, 11, 9, 12);
        joined(z, 10, 2, 2);
        due("the second HANG has the OUT that is near", z.hang(1, 1), 406);
        z.turn(4, 6);
        joined(z, 11, 1, 1);
        due("that OUT went", z.hang(1, 1), NOT_ANY);
        due("the third HANG has the other", z.hang(2, 1), 805);
    }

    @Says("10 at most in all")
    static void p27TenTurns() {
        LacePins x = made(loom(12));
        for (int s = 0; s < 10; s++) x.turn(s, 50);
        joined(x, 12, 0, 0);
        for (int s = 0; s < 10; s++) x.fill(s, false);
        joined(x, 12, 0, 0);
        int[] slotRow = new int[20];
        for (int i = 0; i < 5; i++) {
            slotRow[4 * i] = i;
            slotRow[4 * i + 1] = 10 + i;
            slotRow[4 * i + 2] = 11 - i;
            slotRow[4 * i + 3] = 90 - i;
        }
        joined(turns(12, empty(7, 8, 9, 10, 11), slotRow), 7, 5, 35);
    }

    @Says("what is asked changes nothing")
    static void p27AsksOnly() {
        for (int what = 0; what <= 2; what++) {
            int asked = what;
            leavesAll(BUSY, "pairs " + what, x -> x.pairs(asked));
        }
    }

    // ---- 28 hang

    @Says("-5: none. NONE: i, what")
    static void p28NoSuchHang() {
        for (int i : outside(0, 1)) {
            leavesAll(BUSY, "hang " + i, x -> x.hang(i, 0), NONE);
            due("hang " + i, made(BUSY).hang(i, 1), NONE);
        }
        due("the last", made(BUSY).hang(1, 0), 450);
        due("no TURNS", new LacePins().hang(0, 0), NONE);
        due("an OUT alone", turns(6, empty(), 3, 5).hang(0, 0), NONE);
    }

    @Says("-5: none. NONE: i, what")
    static void p28NoSuchWhat() {
        for (int what : outside(0, 1)) leavesAll(BUSY, "what " + what, x -> x.hang(0, what), NONE);
    }

    @Says("-5: none. NONE: i, what")
    static void p28NoneIsJoined() {
        leavesAll(x -> {
            x.fill(3, false);
            x.turn(3, 5);
        }, "no OUT", x -> x.hang(0, 1), NOT_ANY);
        due("an OUT of its own ROW", turns(6, empty(3), 3, 5, 2, 5).hang(0, 1), NOT_ANY);
        due("an OUT of a greater ROW", turns(6, empty(3), 3, 5, 2, 6).hang(0, 1), NOT_ANY);
        due("the OUT is another one's", turns(6, empty(3, 4), 2, 4, 3, 5, 4, 5).hang(1, 1), NOT_ANY);
    }

    @Says("(-5 is told only where none of them is)")
    static void p28NoneAheadOfNotAny() {
        due("what", turns(6, empty(3), 3, 5).hang(0, 2), NONE);
        due("i", turns(6, empty(3), 3, 5).hang(1, 1), NONE);
    }

    @Says("each in order by ROW, then by SLOT")
    static void p28ByRowThenBySlot() {
        LacePins x = turns(12, empty(0, 5, 11, 3), 11, 7, 0, 7, 5, 7, 3, 6);
        int[] want = {306, 7, 507, 1107};
        for (int i = 0; i < 4; i++) due("hang " + i, x.hang(i, 0), want[i]);
        due("none behind", x.hang(4, 0), NONE);
    }

    @Says("each in order by ROW, then by SLOT")
    static void p28InOrderBehindMirror() {
        LacePins x = turns(6, empty(0, 1, 4), 1, 7, 0, 7, 4, 6);
        x.mirror();
        int[] want = {106, 407, 507};
        for (int i = 0; i < 3; i++) due("hang " + i, x.hang(i, 0), want[i]);
        LacePins y = turns(6, empty(3), 1, 5, 5, 5, 3, 9);
        due("ahead of it", y.hang(0, 1), 105);
        y.mirror();
        due("behind it: that of SLOT 0", y.hang(0, 1), 5);
    }

    @Says("100 times the SLOT, and the ROW (what 0); of the OUT that is JOINED to it likewise (1)")
    static void p28LeastAndMost() {
        due("SLOT 0, ROW 0", turns(12, empty(0), 0, 0).hang(0, 0), 0);
        due("SLOT 11, ROW 99", turns(12, empty(11), 11, 99).hang(0, 0), 1199);
        LacePins x = turns(12, empty(11), 0, 0, 11, 99);
        due("the HANG", x.hang(0, 0), 1199);
        due("the OUT of SLOT 0, ROW 0", x.hang(0, 1), 0);
        LacePins y = turns(12, empty(0), 11, 98, 0, 99);
        due("the HANG", y.hang(0, 0), 99);
        due("the OUT", y.hang(0, 1), 1198);
    }

    @Says("for HANGS in order the first OUT by order (none behind any)")
    static void p28OfSeveralWays() {
        LacePins side = turns(6, empty(3), 2, 5, 4, 5, 3, 9);
        due("of like ROWS that of the lesser SLOT", side.hang(0, 1), 205);
        LacePins row = turns(6, empty(3), 4, 4, 2, 5, 3, 9);
        due("that of the lesser ROW", row.hang(0, 1), 404);
        LacePins two = turns(12, empty(4, 8), 2, 5, 10, 5, 4, 9, 8, 9);
        due("the nearer, not the first", two.hang(1, 1), 1005);
        LacePins cross = turns(12, empty(5, 6), 0, 5, 1, 6, 5, 9, 6, 9);
        due("10 either way: the first HANG has the first OUT", cross.hang(0, 1), 5);
        due("the second the other", cross.hang(1, 1), 106);
        LacePins none = turns(12, empty(5, 7), 6, 5, 5, 9, 7, 9);
        due("either HANG could have it: the first has", none.hang(0, 1), 605);
        due("the second none", none.hang(1, 1), NOT_ANY);
    }

    @Says("what is asked changes nothing")
    static void p28AsksOnly() {
        leavesAll(BUSY, "hang", x -> x.hang(0, 1));
    }
}
