/** Each promise of the document by its number: ordinary inputs, the edges it names, wrong inputs. */
public final class PromisesTest {
    private static final int NONE = -1, BAD = -2, STATE = -3, FULL = -4;
    private static final int NOT_ANY = -5, NOTHING = -11, BEYOND = -13, BELOW = -14;
    private static final int LOW = Integer.MIN_VALUE, HIGH = Integer.MAX_VALUE;
    private static final Check check = new Check();

    public static void main(String[] args) {
        thePricking();
        whatNeedsWhat();
        theWork();
        inThought();
        draftsAndSeen();
        texts();
        rowsAndImage();
        check.end();
    }

    private static void thePricking() {
        p1NewObject();
        p2Loom();
        p3Pin();
        p4Drop();
        p5Stitch();
        p6Of();
        p7Fill();
        p8Turn();
        p9Filled();
        p10Mirror();
        p11Even();
    }

    private static void whatNeedsWhat() {
        p12Needs();
        p13Pins();
        p14Deepest();
    }

    private static void theWork() {
        p15Work();
        p15Stitches();
        p16WorkAll();
        p17Undo();
        p18Thread();
        p19Where();
        p20Overs();
        p21Acts();
        p22Hand();
    }

    private static void inThought() {
        p23Orders();
        p24Order();
        p25Travel();
        p26Along();
        p27Pairs();
        p28Hang();
    }

    private static void draftsAndSeen() {
        p29Draft();
        p30Paper();
        p31Lay();
        p32Seen();
    }

    private static void texts() {
        p33Feed();
        p34Clear();
        p35Told();
        p35Faults();
        p35Unfit();
    }

    private static void rowsAndImage() {
        p36List();
        p37Set();
        p38Get();
        p39Count();
        p40Image();
        p41Restore();
    }

    private static void due(String call, long got, long want) {
        check.due(call, got, want);
    }

    private static LacePins begin(String promise, int w) {
        check.topic(promise);
        LacePins x = new LacePins();
        if (w != 6) due("loom", x.loom(w), 6);
        return x;
    }

    /** PINS by ROW, SLOT, STITCH. */
    private static void pins(LacePins x, int[]... pins) {
        for (int[] pin : pins) {
            int number = x.count(1);
            due("pin " + pin[0] + " " + pin[1], x.pin(pin[0], pin[1], pin[2]), number);
        }
    }

    private static int[] at(int row, int slot, int stitch) {
        return new int[] {row, slot, stitch};
    }

    /** TURNS by SLOT and ROW. */
    private static void turns(LacePins x, int... slotRow) {
        for (int i = 0; i < slotRow.length; i += 2) {
            int many = x.count(2);
            due("turn", x.turn(slotRow[i], slotRow[i + 1]), many + 1);
        }
    }

    private static void threads(LacePins x, int... want) {
        for (int i = 0; i < want.length; i++) {
            due("thread at " + i, x.thread(i / 2, i % 2), want[i]);
        }
    }

    private static String paperOf(LacePins x) {
        StringBuilder text = new StringBuilder();
        for (int i = 0; i < x.count(5); i++) text.append((char) x.paper(i));
        return text.toString();
    }

    private static void drafted(LacePins x, int row, String want) {
        due("draft " + row, x.draft(row), want.length());
        String got = paperOf(x);
        check.holds("draft of row " + row + " is " + got + ", due is " + want, got.equals(want));
    }

    private static int told(LacePins x, String text) {
        for (int i = 0; i < text.length(); i++) due("feed", x.feed(text.charAt(i)), i + 1);
        int answer = x.pricking();
        due("THE TAPE behind " + text, x.count(4), 0);
        return answer;
    }

    private static void p1NewObject() {
        LacePins x = begin("1 new object", 6);
        due("slots", x.count(0), 6);
        for (int what = 1; what <= 8; what++) due("count " + what, x.count(what), 0);
        threads(x, 0, 1, 2, 3, 4, 5, 6, 7, 8, 9, 10, 11);
        for (int s = 0; s < 6; s++) due("filled", x.filled(s, 0), 1);
        for (int t = 0; t < 12; t++) due("overs", x.overs(t), 0);
        due("restore", x.restore(), STATE);
        for (int l = 0; l < 4; l++) due("set", x.set(l, 0, 1), NOTHING);
        due("NONE", LacePins.NONE, -1);
        due("BAD", LacePins.BAD, -2);
        due("STATE", LacePins.STATE, -3);
        due("FULL", LacePins.FULL, -4);
        due("NO", LacePins.NO, Long.MIN_VALUE);
    }

    private static void p2Loom() {
        LacePins x = begin("2 loom", 6);
        for (int w : new int[] {1, 13, 0, -1, LOW, HIGH}) due("loom " + w, x.loom(w), BAD);
        due("slots", x.count(0), 6);
        due("loom 2", x.loom(2), 6);
        due("loom 12", x.loom(12), 2);
        pins(x, at(3, 4, 4), at(5, 0, 2));
        turns(x, 11, 4);
        due("fill", x.fill(9, false), 1);
        due("feed", x.feed('a'), 1);
        due("draft", x.draft(3), 12);
        due("list", x.list(1, 3), 1);
        due("set", x.set(1, 2, 77), 1);
        due("image", x.image(), 2);
        due("work", x.work(0), 1);
        due("hand", x.hand(7), 4);
        due("work", x.work(1), 2);
        due("loom 12", x.loom(12), 12);
        for (int what : new int[] {1, 2, 3, 6, 7, 8}) due("count " + what, x.count(what), 0);
        for (int s = 0; s < 12; s++) due("filled", x.filled(s, 99), 1);
        for (int t = 0; t < 24; t++) due("where", x.where(t), t);
        for (int t = 0; t < 24; t++) due("overs", x.overs(t), 0);
        due("undo", x.undo(), STATE);
        due("tape", x.count(4), 1);
        due("paper", x.count(5), 12);
        due("get", x.get(1, 2), 77);
        due("pin number", x.pin(0, 10, 0), 0);
        due("restore", x.restore(), 2);
        due("turns", x.count(2), 1);
    }

    private static void p3Pin() {
        LacePins x = begin("3 pin", 4);
        due("row 100", x.pin(100, 0, 0), BAD);
        due("row -1", x.pin(-1, 0, 0), BAD);
        due("slot 3", x.pin(0, 3, 0), BAD);
        due("slot -1", x.pin(0, -1, 0), BAD);
        due("slot high", x.pin(0, HIGH, 0), BAD);
        due("slot low", x.pin(0, LOW, 0), BAD);
        due("stitch 5", x.pin(0, 0, 5), BAD);
        due("stitch -1", x.pin(0, 0, -1), BAD);
        due("row 99", x.pin(99, 2, 4), 0);
        due("same", x.pin(99, 2, 4), STATE);
        due("neighbour", x.pin(99, 1, 4), STATE);
        due("apart", x.pin(99, 0, 4), 1);
        due("between", x.pin(99, 1, 4), STATE);
        for (int p = 2; p < 30; p++) due("pin", x.pin(p, 1, p % 5), p);
        due("bad is ahead of full", x.pin(50, 3, 0), BAD);
        due("state is ahead of full", x.pin(99, 1, 0), STATE);
        due("full", x.pin(50, 0, 0), FULL);
        due("pins", x.count(1), 30);
        due("of the last", x.of(29, 0), 29);
        LacePins y = begin("3 pin", 6);
        pins(y, at(0, 0, 0));
        due("work", y.work(0), 1);
        due("state, one is done", y.pin(5, 2, 0), STATE);
        due("bad is ahead of state", y.pin(5, 5, 0), BAD);
        due("pins", y.count(1), 1);
    }

    private static void p4Drop() {
        LacePins x = begin("4 drop", 6);
        due("none", x.drop(), STATE);
        pins(x, at(0, 0, 1), at(0, 2, 2), at(1, 1, 3));
        due("drop", x.drop(), 2);
        due("of", x.of(2, 0), NONE);
        due("work", x.work(1), 1);
        due("one is done", x.drop(), STATE);
        due("undo", x.undo(), 0);
        due("drop", x.drop(), 1);
        due("the first stays", x.of(0, 2), 1);
        due("drop", x.drop(), 0);
        due("none", x.drop(), STATE);
    }

    private static void p5Stitch() {
        LacePins x = begin("5 stitch", 6);
        due("no pin", x.stitch(0, 1), NONE);
        due("none is ahead of bad", x.stitch(0, 9), NONE);
        pins(x, at(0, 0, 1), at(0, 2, 2));
        due("stitch", x.stitch(1, 4), 2);
        due("stitch", x.stitch(1, 0), 4);
        due("of", x.of(1, 2), 0);
        due("of the other", x.of(0, 2), 1);
        due("bad", x.stitch(1, 5), BAD);
        due("bad", x.stitch(1, -1), BAD);
        due("none", x.stitch(2, 0), NONE);
        due("none", x.stitch(-1, 0), NONE);
        due("work", x.work(0), 1);
        due("bad is ahead of state", x.stitch(1, 5), BAD);
        due("state", x.stitch(1, 3), STATE);
        due("of", x.of(1, 2), 0);
    }

    private static void p6Of() {
        LacePins x = begin("6 of", 5);
        pins(x, at(7, 3, 4), at(3, 2, 1), at(99, 0, 0));
        turns(x, 0, 99);
        int[][] want = {{7, 3, 4, 0, 1, 0}, {3, 2, 1, 0, 0, 0}, {99, 0, 0, 0, 0, 1}};
        for (int p = 0; p < 3; p++) {
            for (int what = 0; what < 6; what++) {
                due("of " + p + " " + what, x.of(p, what), want[p][what]);
            }
        }
        due("work", x.work(1), 1);
        due("done", x.of(1, 3), 1);
        due("not done", x.of(0, 3), 0);
        for (int what : new int[] {-1, 6, LOW, HIGH}) due("what " + what, x.of(0, what), NONE);
        for (int pin : new int[] {-1, 3, LOW, HIGH}) due("pin " + pin, x.of(pin, 0), NONE);
    }

    private static void p7Fill() {
        LacePins x = begin("7 fill", 3);
        due("was filled", x.fill(2, false), 1);
        due("was empty", x.fill(2, false), 0);
        due("filled", x.filled(2, 0), 0);
        due("pairs", x.pairs(0), 2);
        due("threads stay", x.thread(2, 1), 5);
        due("was empty", x.fill(2, true), 0);
        due("filled", x.filled(2, 99), 1);
        for (int slot : new int[] {-1, 3, 32, LOW, HIGH}) due("slot " + slot, x.fill(slot, true), NONE);
        pins(x, at(0, 0, 0));
        due("work", x.work(0), 1);
        due("none is ahead of state", x.fill(3, true), NONE);
        due("state", x.fill(2, false), STATE);
        due("filled", x.filled(2, 0), 1);
    }

    private static void p8Turn() {
        LacePins x = begin("8 turn", 4);
        due("none is ahead of bad", x.turn(4, 100), NONE);
        due("none", x.turn(-1, 0), NONE);
        due("bad", x.turn(0, 100), BAD);
        due("bad", x.turn(0, -1), BAD);
        for (int i = 0; i < 10; i++) due("comes", x.turn(i % 4, 99 - i), i + 1);
        due("full", x.turn(0, 0), FULL);
        due("bad is ahead of full", x.turn(0, 100), BAD);
        due("goes", x.turn(1, 98), 9);
        due("goes", x.turn(3, 96), 8);
        due("comes", x.turn(1, 98), 9);
        due("comes", x.turn(3, 96), 10);
        due("goes", x.turn(0, 99), 9);
        due("the least goes", x.turn(1, 90), 8);
        due("and comes", x.turn(1, 90), 9);
        due("filled", x.filled(0, 99), 1);
        pins(x, at(0, 0, 0));
        due("work", x.work(0), 1);
        due("bad is ahead of state", x.turn(0, 100), BAD);
        due("state", x.turn(0, 5), STATE);
        due("turns", x.count(2), 9);
    }

    private static void p9Filled() {
        LacePins x = begin("9 filled", 3);
        turns(x, 1, 50, 1, 10, 1, 99, 0, 0);
        due("fill", x.fill(2, false), 1);
        int[] rows = {0, 9, 10, 49, 50, 98, 99};
        int[] want = {1, 1, 0, 0, 1, 1, 0};
        for (int i = 0; i < rows.length; i++) {
            due("slot 1 at " + rows[i], x.filled(1, rows[i]), want[i]);
            due("slot 0 at " + rows[i], x.filled(0, rows[i]), 0);
            due("slot 2 at " + rows[i], x.filled(2, rows[i]), 0);
        }
        due("none is ahead of bad", x.filled(3, 100), NONE);
        due("none", x.filled(-1, 0), NONE);
        due("bad", x.filled(0, 100), BAD);
        due("bad", x.filled(0, -1), BAD);
    }

    private static void p10Mirror() {
        LacePins x = begin("10 mirror", 5);
        due("no pins", x.mirror(), 0);
        pins(x, at(1, 0, 1), at(1, 2, 2), at(4, 1, 3));
        turns(x, 0, 4, 4, 4, 1, 2);
        due("fill", x.fill(1, false), 1);
        due("hand", x.hand(1), 0);
        due("mirror", x.mirror(), 3);
        int[] slots = {3, 1, 2};
        for (int p = 0; p < 3; p++) {
            due("slot", x.of(p, 1), slots[p]);
            due("stitch", x.of(p, 2), p + 1);
        }
        due("filled", x.filled(3, 0), 0);
        due("filled", x.filled(3, 2), 1);
        due("filled", x.filled(1, 0), 1);
        due("filled", x.filled(0, 4), 0);
        due("hand", x.count(6), 1);
        due("thread", x.thread(0, 0), 0);
        due("hang", x.hang(0, 0), 302);
        due("turns", x.turn(4, 4), 2);
        due("fill", x.fill(0, false), 1);
        due("fill", x.fill(4, false), 1);
        due("turn", x.turn(4, 4), 3);
        due("hangs by slot", x.hang(1, 0), 4);
        due("hangs by slot", x.hang(2, 0), 404);
        due("turn", x.turn(4, 4), 2);
        due("turn", x.turn(3, 4), 3);
        due("fill", x.fill(3, true), 0);
        due("mirror", x.mirror(), 3);
        due("hangs are put in order anew", x.hang(0, 0), 104);
        due("hangs are put in order anew", x.hang(1, 0), 404);
        due("mirror", x.mirror(), 3);
        due("fill", x.fill(0, true), 0);
        due("fill", x.fill(4, true), 0);
        due("work", x.work(1), 1);
        due("state", x.mirror(), STATE);
        due("slot", x.of(0, 1), 3);
    }

    private static void p11Even() {
        LacePins x = begin("11 even", 5);
        due("empty", x.even(), 1);
        pins(x, at(0, 0, 2));
        due("one side", x.even(), 0);
        pins(x, at(0, 3, 1));
        due("other stitch", x.even(), 0);
        due("stitch", x.stitch(1, 2), 1);
        due("even", x.even(), 1);
        due("turn", x.turn(1, 6), 1);
        due("a turn", x.even(), 0);
        due("turn", x.turn(3, 7), 2);
        due("of another row", x.even(), 0);
        due("turn", x.turn(3, 7), 1);
        due("turn", x.turn(3, 6), 2);
        due("even", x.even(), 1);
        due("fill", x.fill(0, false), 1);
        due("fill", x.even(), 0);
        due("fill", x.fill(4, false), 1);
        due("fill", x.fill(2, false), 1);
        due("even", x.even(), 1);
        LacePins y = begin("11 even", 4);
        pins(y, at(2, 1, 0), at(0, 0, 3), at(0, 2, 3));
        due("even", y.even(), 1);
        due("work", y.work(1), 1);
        due("even with one done", y.even(), 1);
        due("undo", y.undo(), 0);
        pins(y, at(9, 2, 3), at(8, 0, 3));
        due("rows differ", y.even(), 0);
    }

    private static void p12Needs() {
        LacePins x = begin("12 needs", 6);
        pins(x, at(9, 1, 0), at(2, 1, 0), at(5, 2, 0), at(5, 0, 0), at(1, 4, 0), at(7, 3, 0));
        long[] direct = {0b001100, 0, 0b000010, 0b000010, 0, 0b010100};
        long[] all = {0b001110, 0, 0b000010, 0b000010, 0, 0b010110};
        long[] by = {0, 0b101101, 0b100001, 0b000001, 0b100000, 0};
        for (int p = 0; p < 6; p++) {
            due("direct " + p, x.needs(p, 0), direct[p]);
            due("all " + p, x.needs(p, 1), all[p]);
            due("by " + p, x.needs(p, 2), by[p]);
        }
        for (int bad : new int[] {-1, 3, LOW, HIGH}) due("what", x.needs(0, bad), LacePins.NO);
        for (int bad : new int[] {-1, 6, LOW, HIGH}) due("pin", x.needs(bad, 0), LacePins.NO);
        LacePins y = begin("12 needs", 2);
        for (int p = 0; p < 30; p++) due("pin", y.pin(99 - p, 0, 0), p);
        due("chain", y.needs(0, 1), (1L << 30) - 2);
        due("chain", y.needs(29, 2), (1L << 29) - 1);
        due("chain", y.needs(4, 0), 1L << 5);
        for (int p = 30; p > 5; p--) due("drop", y.drop(), p - 1);
        due("told anew", y.needs(4, 0) + y.needs(4, 1), 0);
    }

    private static void p13Pins() {
        LacePins x = begin("13 pins", 4);
        pins(x, at(0, 0, 3), at(0, 2, 3), at(2, 1, 3), at(4, 2, 3));
        turns(x, 3, 1);
        due("lack", x.pins(0), 0b1000);
        due("ready", x.pins(1), 0b0011);
        due("done", x.pins(2), 0);
        due("work", x.work(1), 1);
        due("ready", x.pins(1), 0b0001);
        due("work", x.work(0), 2);
        due("ready", x.pins(1), 0b0100);
        due("done", x.pins(2), 0b0011);
        due("work", x.work(2), 3);
        due("ready", x.pins(1), 0);
        due("lack", x.pins(0), 0b1000);
        for (int n = 2; n >= 0; n--) due("undo", x.undo(), n);
        due("fill", x.fill(0, false), 1);
        due("lack", x.pins(0), 0b1001);
        due("ready", x.pins(1), 0b0010);
        for (int bad : new int[] {-1, 3, LOW, HIGH}) due("what", x.pins(bad), LacePins.NO);
    }

    private static void p14Deepest() {
        LacePins x = begin("14 deepest", 6);
        due("no pins", x.deepest(), NOT_ANY);
        pins(x, at(50, 0, 0));
        due("one", x.deepest(), 0);
        pins(x, at(50, 2, 0), at(60, 1, 0), at(40, 2, 0));
        due("three", x.deepest(), 2);
        due("drop", x.drop(), 3);
        due("two", x.deepest(), 1);
        due("mirror", x.mirror(), 3);
        pins(x, at(70, 0, 0));
        due("two", x.deepest(), 1);
        LacePins z = begin("14 deepest", 3);
        pins(z, at(9, 0, 0), at(1, 0, 0));
        due("the first", z.deepest(), 1);
        LacePins y = begin("14 deepest", 3);
        for (int p = 0; p < 30; p++) due("pin", y.pin(p, p % 2, 0), p);
        due("thirty", y.deepest(), 29);
    }

    private static void p15Work() {
        LacePins x = begin("15 work", 4);
        due("none", x.work(0), NONE);
        pins(x, at(0, 0, 0), at(1, 1, 0), at(0, 2, 0), at(5, 0, 0));
        turns(x, 0, 3);
        for (int bad : new int[] {-1, 4, LOW, HIGH}) due("none", x.work(bad), NONE);
        due("needs", x.work(1), STATE);
        due("work", x.work(2), 1);
        due("hand", x.count(6), 2);
        due("done", x.work(2), STATE);
        due("needs", x.work(1), STATE);
        due("work", x.work(0), 2);
        due("work", x.work(1), 3);
        due("hand", x.count(6), 1);
        due("lacks", x.work(3), STATE);
        due("done", x.pins(2), 0b0111);
    }

    private static void p15Stitches() {
        int[][] want = {
            {2, 4, 3, 5}, {3, 2, 5, 4}, {4, 2, 5, 3}, {4, 5, 2, 3}, {5, 4, 3, 2}};
        // C: 3 over 4; T: 4 over 2, 5 over 3; C: 2 over 5; T: 5 over 4, 3 over 2; twist: 3 over 2, 5 over 4
        int[][] overs = {{0, 1, 0, 0}, {0, 1, 0, 1}, {0, 1, 1, 1}, {1, 1, 1, 1}, {1, 2, 1, 2}};
        for (int s = 0; s < 5; s++) {
            LacePins x = begin("15 stitch " + s, 4);
            pins(x, at(0, 1, s));
            due("work", x.work(0), 1);
            threads(x, 0, 1, want[s][0], want[s][1], want[s][2], want[s][3], 6, 7);
            for (int t = 0; t < 4; t++) due("overs " + (t + 2), x.overs(t + 2), overs[s][t]);
            due("overs", x.overs(0) + x.overs(1) + x.overs(6) + x.overs(7), 0);
        }
    }

    private static void p16WorkAll() {
        LacePins x = begin("16 workAll", 6);
        due("none", x.workAll(), 0);
        pins(x, at(5, 1, 0), at(3, 4, 2), at(3, 0, 3), at(3, 2, 1), at(8, 4, 4), at(4, 3, 0));
        turns(x, 5, 6);
        due("all but one", x.workAll(), 5);
        due("hand", x.count(6), 1);
        int[] hands = {3, 4, 2, 0, 0};
        for (int i = 0; i < 5; i++) {
            due("undo", x.undo(), 4 - i);
            due("hand", x.count(6), hands[i]);
        }
        due("work", x.work(1), 1);
        due("the rest", x.workAll(), 4);
        due("none more", x.workAll(), 0);
        due("done", x.count(3), 5);
        LacePins z = begin("16 workAll", 8);
        pins(z, at(0, 0, 0), at(0, 6, 0), at(1, 2, 0), at(0, 4, 0), at(0, 2, 0));
        due("all", z.workAll(), 5);
        int[] slots = {2, 6, 4, 2, 0};
        for (int i = 0; i < 5; i++) {
            due("hand", z.count(6), slots[i]);
            due("undo", z.undo(), 4 - i);
        }
        LacePins y = begin("16 workAll", 12);
        for (int p = 0; p < 30; p++) due("pin", y.pin(p / 5, p % 5 * 2, p % 5), p);
        due("thirty", y.workAll(), 30);
        due("undo", y.undo(), 29);
        due("one", y.workAll(), 1);
    }

    private static void p17Undo() {
        LacePins x = begin("17 undo", 5);
        due("none", x.undo(), STATE);
        pins(x, at(0, 0, 4), at(0, 3, 3), at(1, 1, 2), at(2, 0, 1), at(2, 2, 0));
        due("hand", x.hand(4), 0);
        int[][] threads = new int[6][10];
        int[][] overs = new int[6][10];
        int[] order = {1, 0, 2, 4, 3};
        int[] hands = {4, 2, 2, 2, 2};
        for (int n = 0; n < 5; n++) {
            for (int t = 0; t < 10; t++) {
                threads[n][t] = x.where(t);
                overs[n][t] = x.overs(t);
            }
            due("work", x.work(order[n]), n + 1);
            int slot = x.of(order[n], 1);
            due("hand", x.hand(2), slot);
        }
        for (int n = 4; n >= 0; n--) {
            due("undo", x.undo(), n);
            due("done", x.of(order[n], 3), 0);
            due("hand", x.count(6), hands[n]);
            for (int t = 0; t < 10; t++) {
                due("where", x.where(t), threads[n][t]);
                due("overs", x.overs(t), overs[n][t]);
            }
        }
        due("none", x.undo(), STATE);
        due("hand", x.count(6), 4);
    }

    private static void p18Thread() {
        LacePins x = begin("18 thread", 3);
        threads(x, 0, 1, 2, 3, 4, 5);
        pins(x, at(0, 1, 0));
        due("work", x.work(0), 1);
        threads(x, 0, 1, 2, 4, 3, 5);
        for (int bad : new int[] {-1, 3, LOW, HIGH}) due("slot", x.thread(bad, 0), NONE);
        for (int bad : new int[] {-1, 2, LOW, HIGH}) due("side", x.thread(0, bad), NONE);
    }

    private static void p19Where() {
        LacePins x = begin("19 where", 3);
        pins(x, at(0, 0, 3), at(1, 1, 1));
        due("workAll", x.workAll(), 2);
        int[] want = {3, 2, 0, 1, 5, 4};
        for (int t = 0; t < 6; t++) due("where " + t, x.where(t), want[t]);
        for (int bad : new int[] {-1, 6, LOW, HIGH}) due("where", x.where(bad), NONE);
    }

    private static void p20Overs() {
        LacePins x = begin("20 overs", 3);
        pins(x, at(0, 0, 4), at(1, 0, 4), at(2, 1, 0));
        due("workAll", x.workAll(), 3);
        // the second whole stitch takes 3 2 1 0; then 3 is at the right of SLOT 1 and goes over 4
        int[] want = {1 + 2, 2 + 1, 1 + 2, 2 + 1 + 1, 0, 0};
        for (int t = 0; t < 6; t++) due("overs " + t, x.overs(t), want[t]);
        for (int bad : new int[] {-1, 6, LOW, HIGH}) due("overs", x.overs(bad), NONE);
    }

    private static void p21Acts() {
        LacePins x = begin("21 acts", 2);
        int[] crosses = {1, 0, 1, 2, 2};
        int[] twists = {0, 1, 1, 1, 2};
        for (int s = 0; s < 5; s++) pins(x, at(s, 0, s));
        int c = 0;
        int t = 0;
        due("none", x.acts(0) + x.acts(1), 0);
        for (int s = 0; s < 5; s++) {
            due("work", x.work(s), s + 1);
            c += crosses[s];
            t += twists[s];
            due("C", x.acts(0), c);
            due("T", x.acts(1), t);
        }
        due("undo", x.undo(), 4);
        due("C", x.acts(0), c - 2);
        for (int bad : new int[] {-1, 2, LOW, HIGH}) due("acts", x.acts(bad), NONE);
    }

    private static void p22Hand() {
        LacePins x = begin("22 hand", 3);
        due("hand", x.hand(2), 0);
        due("hand", x.hand(1), 2);
        for (int bad : new int[] {-1, 3, LOW, HIGH}) due("hand", x.hand(bad), NONE);
        due("hand", x.count(6), 1);
        pins(x, at(0, 0, 0));
        due("work", x.work(0), 1);
        due("while one is done", x.hand(2), 0);
        due("hand", x.count(6), 2);
    }

    private static void p23Orders() {
        LacePins x = begin("23 orders", 12);
        due("no pins", x.orders(), 1);
        for (int p = 0; p < 12; p++) due("pin", x.pin(p / 6, p % 6 * 2, 0), p);
        due("twelve: 12! / 2^6", x.orders(), 7484400L);
        pins(x, at(50, 0, 0));
        due("thirteen", x.orders(), -3);
        due("work", x.work(3), 1);
        due("twelve left: 12! / (3! 2^4)", x.orders(), 4989600L);
        due("undo", x.undo(), 0);
        due("drop", x.drop(), 12);
        turns(x, 11, 1);
        due("one lacks", x.orders(), 0);
        for (int p = 0; p < 2; p++) pins(x, at(60 + p, 0, 0));
        due("too many is ahead of none", x.orders(), -3);
        LacePins y = begin("23 orders", 4);
        pins(y, at(0, 0, 0), at(0, 2, 0), at(1, 1, 0));
        due("two", y.orders(), 2);
        due("work", y.work(1), 1);
        due("one", y.orders(), 1);
        due("workAll", y.workAll(), 2);
        due("all are done", y.orders(), 1);
    }

    private static void p24Order() {
        LacePins x = begin("24 order", 6);
        due("of no pins", x.order(0, 0), NONE);
        pins(x, at(5, 1, 0), at(0, 4, 0), at(3, 0, 0), at(3, 2, 0));
        // 2 and 3 stand ahead of 0, and 1 is free
        int[][] want = {
            {1, 2, 3, 0}, {1, 3, 2, 0}, {2, 1, 3, 0}, {2, 3, 0, 1}, {2, 3, 1, 0},
            {3, 1, 2, 0}, {3, 2, 0, 1}, {3, 2, 1, 0}};
        due("orders", x.orders(), want.length);
        for (int k = 0; k < want.length; k++) {
            for (int i = 0; i < 4; i++) due("order " + k + " " + i, x.order(k, i), want[k][i]);
        }
        for (long bad : new long[] {-1, 8, Long.MIN_VALUE, Long.MAX_VALUE, 1L << 32}) {
            due("k", x.order(bad, 0), NONE);
        }
        for (int bad : new int[] {-1, 4, LOW, HIGH}) due("i", x.order(0, bad), NONE);
        due("work", x.work(2), 1);
        // 1 3 0, 3 0 1, 3 1 0
        due("of what is left", x.order(2, 0), 3);
        due("of what is left", x.order(2, 1), 1);
        due("of what is left", x.order(1, 1), 0);
        due("i", x.order(0, 3), NONE);
        LacePins y = begin("24 order", 2);
        for (int p = 0; p < 13; p++) due("pin", y.pin(p, 0, 0), p);
        due("thirteen", y.order(0, 0), STATE);
        due("state is ahead of none", y.order(-1, -1), STATE);
        due("fill", y.fill(0, false), 1);
        due("drop", y.drop(), 12);
        due("none is lawful", y.order(0, 0), NONE);
    }

    private static void p25Travel() {
        LacePins x = begin("25 travel", 12);
        due("no pins", x.travel(), 0);
        pins(x, at(0, 0, 0), at(0, 5, 0), at(0, 10, 0));
        due("from 0", x.travel(), 10);
        due("hand", x.hand(11), 0);
        due("from 11", x.travel(), 11);
        due("hand", x.hand(6), 11);
        due("from 6", x.travel(), 14);
        due("work", x.work(1), 1);
        due("from 5", x.travel(), 15);
        due("workAll", x.workAll(), 2);
        due("all done", x.travel(), 0);
        LacePins y = begin("25 travel", 3);
        for (int p = 0; p < 12; p++) due("pin", y.pin(p, p % 2, 0), p);
        due("zigzag", y.travel(), 11);
        turns(y, 1, 5);
        due("lacks", y.travel(), NOT_ANY);
        pins(y, at(20, 0, 0));
        due("thirteen", y.travel(), STATE);
        LacePins z = begin("25 travel", 12);
        for (int p = 0; p < 12; p++) due("pin", z.pin(p / 6, p % 6 * 2, 0), p);
        due("twelve", z.travel(), 10);
        due("changes nothing", z.count(6), 0);
    }

    private static void p26Along() {
        LacePins x = begin("26 along", 12);
        due("of no pins", x.along(0), NONE);
        pins(x, at(0, 10, 0), at(0, 0, 0), at(9, 10, 0), at(0, 5, 0));
        due("hand", x.hand(5), 0);
        // 15 either way: 0 2 3 1, 1 3 0 2, 3 0 2 1, 3 1 0 2: the first by numbers
        due("travel", x.travel(), 15);
        int[] want = {0, 2, 3, 1};
        for (int i = 0; i < 4; i++) due("along " + i, x.along(i), want[i]);
        for (int bad : new int[] {-1, 4, LOW, HIGH}) due("i", x.along(bad), NONE);
        due("hand", x.hand(4), 5);
        int[] then = {1, 3, 0, 2};
        for (int i = 0; i < 4; i++) due("along " + i, x.along(i), then[i]);
        turns(x, 11, 3);
        due("no lawful order", x.along(0), STATE);
        due("state is ahead of none", x.along(-1), STATE);
        LacePins y = begin("26 along", 2);
        for (int p = 0; p < 13; p++) due("pin", y.pin(99 - p, 0, 0), p);
        due("thirteen", y.along(0), STATE);
        due("work", y.work(12), 1);
        for (int i = 0; i < 12; i++) due("chain", y.along(i), 11 - i);
        due("i", y.along(12), NONE);
    }

    private static void p27Pairs() {
        LacePins x = begin("27 pairs", 6);
        due("all", x.pairs(0), 6);
        due("joined", x.pairs(1), 0);
        due("apart", x.pairs(2), 0);
        due("fill", x.fill(5, false), 1);
        due("fill", x.fill(0, false), 1);
        turns(x, 5, 10, 0, 10);
        due("hung in", x.pairs(0), 6);
        turns(x, 2, 10);
        due("of a like row none", x.pairs(1), 0);
        due("turn", x.turn(2, 10), 2);
        turns(x, 2, 9);
        due("pairs", x.pairs(0), 5);
        due("joined", x.pairs(1), 1);
        due("the nearer", x.pairs(2), 2);
        turns(x, 4, 2);
        due("pairs", x.pairs(0), 4);
        due("joined", x.pairs(1), 2);
        due("together", x.pairs(2), 3);
        for (int bad : new int[] {-1, 3, LOW, HIGH}) due("what", x.pairs(bad), NONE);
        LacePins y = begin("27 pairs", 12);
        due("fill", y.fill(1, false), 1);
        // the HANG at ROW 5 has only the OUT of ROW 4, far off; the one at ROW 9 would have it nearer
        turns(y, 11, 4, 1, 5, 11, 9, 0, 8);
        due("as many as can be", y.pairs(1), 2);
        due("far", y.pairs(2), 10 + 11);
        due("pairs", y.pairs(0), 11);
        LacePins z = begin("27 pairs", 12);
        for (int t = 0; t < 10; t++) turns(z, t, 50 - t);
        due("ten OUTS", z.count(8), 10);
        due("none JOINED", z.pairs(1) + z.pairs(2), 0);
        due("pairs", z.pairs(0), 12);
        due("turn", z.turn(0, 50), 9);
        due("fill", z.fill(11, false), 1);
        turns(z, 11, 49);
        due("nine OUTS", z.count(8), 9);
        due("JOINED", z.pairs(1), 1);
        due("the nearest", z.hang(0, 1), 941);
        due("fill", z.fill(11, true), 0);
        for (int t = 1; t < 10; t++) due("fill", z.fill(t, false), 1);
        due("nine HANGS", z.count(7), 9);
        due("none JOINED", z.pairs(1), 0);
        due("pairs", z.pairs(0), 3 + 9);
    }

    private static void p28Hang() {
        LacePins x = begin("28 hang", 6);
        due("none", x.hang(0, 0), NONE);
        due("fill", x.fill(3, false), 1);
        due("fill", x.fill(1, false), 1);
        turns(x, 3, 7, 1, 7, 2, 5, 2, 20, 0, 0);
        // OUTS 0 (SLOT 0, ROW 0) and 205: two are JOINED either way, but 205 is nearer to 220
        int[] hangs = {107, 307, 220};
        int[] outs = {0, NOT_ANY, 205};
        for (int i = 0; i < 3; i++) {
            due("hang " + i, x.hang(i, 0), hangs[i]);
            due("out " + i, x.hang(i, 1), outs[i]);
        }
        for (int bad : new int[] {-1, 3, LOW, HIGH}) due("i", x.hang(bad, 0), NONE);
        for (int bad : new int[] {-1, 2, LOW, HIGH}) due("what", x.hang(0, bad), NONE);
        due("none is ahead of -5", x.hang(1, 2), NONE);
        LacePins y = begin("28 hang", 5);
        due("fill", y.fill(2, false), 1);
        turns(y, 2, 9, 1, 3, 3, 3);
        due("of like ones the first OUT", y.hang(0, 1), 103);
        due("turn", y.turn(2, 10), 4);
        due("turn", y.turn(2, 12), 5);
        due("again", y.hang(1, 1), 210);
        due("again", y.hang(0, 1), 103);
    }

    private static void p29Draft() {
        LacePins x = begin("29 draft", 6);
        pins(x, at(3, 0, 0), at(3, 3, 0), at(99, 4, 0));
        turns(x, 1, 3, 5, 2, 1, 50);
        drafted(x, 0, "||||||");
        drafted(x, 2, "|||||.");
        drafted(x, 3, "(.|().");
        drafted(x, 49, "|.|||.");
        drafted(x, 99, "||||(.");
        due("bad", x.draft(100), BAD);
        due("bad", x.draft(-1), BAD);
        due("paper stays", x.paper(4), '(');
        due("loom", x.loom(2), 6);
        due("paper stays", x.count(5), 6);
        drafted(x, 0, "||");
        due("fill", x.fill(0, false), 1);
        pins(x, at(7, 0, 0));
        drafted(x, 7, ".)");
    }

    private static void p30Paper() {
        LacePins x = begin("30 paper", 3);
        due("nothing yet", x.paper(0), NONE);
        pins(x, at(0, 1, 0));
        due("draft", x.draft(0), 3);
        due("first", x.paper(0), '|');
        due("second", x.paper(1), '(');
        due("third", x.paper(2), ')');
        for (int bad : new int[] {-1, 3, 11, LOW, HIGH}) due("i", x.paper(bad), NONE);
    }

    private static void p31Lay() {
        LacePins x = begin("31 lay", 2);
        due("none", x.lay(4, 0), NONE);
        due("none", x.lay(-1, 0), NONE);
        due("nothing", x.lay(3, -1), NOTHING);
        due("list", x.list(3, 6), 1);
        pins(x, at(0, 0, 4));
        due("work", x.work(0), 1);
        due("lay", x.lay(3, 2), 4);
        long[] want = {0, 0, 3, 2, 1, 0};
        for (int i = 0; i < 6; i++) due("get", x.get(3, i), want[i]);
        due("set", x.set(3, 0, 9), 1);
        due("not all", x.lay(3, 5), BEYOND);
        due("the one that had a place", x.get(3, 5), 3);
        due("beyond", x.lay(3, 6), BEYOND);
        due("beyond", x.lay(3, HIGH), BEYOND);
        due("below", x.lay(3, -1), BEYOND);
        due("below", x.lay(3, LOW), BEYOND);
        due("none was laid", x.get(3, 0), 9);
        due("list", x.list(0, 0), 1);
        due("no place", x.lay(0, 0), BEYOND);
        due("loom", x.loom(12), 2);
        due("list", x.list(2, 30), 1);
        due("list", x.list(3, 24), 1);
        due("beyond", x.lay(2, 7), BEYOND);
        due("not into the next", x.get(3, 0), 0);
        due("all", x.lay(3, 0), 24);
        due("list", x.list(3, 30), 1);
        due("beyond the last", x.lay(3, 20), BEYOND);
        due("from the last place on", x.lay(3, 6), 24);
    }

    private static void p32Seen() {
        for (int s = 0; s < 5; s++) {
            LacePins x = begin("32 seen " + s, 3);
            pins(x, at(0, 0, s), at(1, 1, 4));
            due("list", x.list(2, 9), 1);
            due("work", x.work(0), 1);
            due("lay", x.lay(2, 3), 6);
            due("undo", x.undo(), 0);
            due("seen", x.seen(0, 2, 3), 1 << s);
            due("changes nothing", x.where(0) + x.overs(1) + x.count(3) + x.count(6), 0);
            due("from elsewhere", x.seen(0, 2, 0), 0);
            due("set", x.set(2, 8, x.get(2, 8) + (1L << 32)), 1);
            due("by longs", x.seen(0, 2, 3), 0);
            due("set", x.set(2, 8, 5), 1);
            due("seen again", x.seen(0, 2, 3), 1 << s);
            due("set", x.set(2, 3, x.get(2, 3) + 1), 1);
            due("the first one, too", x.seen(0, 2, 3), 0);
        }
        LacePins x = begin("32 seen", 2);
        due("no pin", x.seen(0, 0, 0), NONE);
        pins(x, at(0, 0, 0), at(1, 0, 0));
        due("no list", x.seen(0, 4, 0), NONE);
        due("no pin", x.seen(2, 0, 0), NONE);
        due("nothing", x.seen(1, 0, -1), NOTHING);
        due("list", x.list(0, 5), 1);
        for (int bad : new int[] {-1, 2, LOW, HIGH}) due("beyond", x.seen(1, 0, bad), BEYOND);
        due("lay", x.lay(0, 1), 4);
        due("not ready", x.seen(1, 0, 1), STATE);
        due("no stitch", x.seen(0, 0, 1), 0);
        due("work", x.work(0), 1);
        due("done", x.seen(0, 0, 1), STATE);
        // cross upon cross is as it was
        due("cross", x.seen(1, 0, 1), 1);
        due("hand stays", x.hand(1), 0);
        due("cross", x.seen(1, 0, 1), 1);
        due("hand stays", x.count(6), 1);
    }

    private static void p33Feed() {
        LacePins x = begin("33 feed", 6);
        for (int bad : new int[] {0, -1, 128, LOW, HIGH}) due("bad", x.feed(bad), BAD);
        due("first", x.feed(1), 1);
        for (int i = 2; i <= 120; i++) due("feed", x.feed(127), i);
        due("bad is ahead of full", x.feed(0), BAD);
        due("full", x.feed(1), FULL);
        due("tape", x.count(4), 120);
    }

    private static void p34Clear() {
        LacePins x = begin("34 clear", 6);
        due("empty", x.clear(), 0);
        due("feed", x.feed('x'), 1);
        due("feed", x.feed('y'), 2);
        due("clear", x.clear(), 2);
        due("tape", x.count(4), 0);
        due("told anew", told(x, "fill 0"), 1);
    }

    private static void p35Told() {
        LacePins x = begin("35 pricking", 12);
        due("one", told(x, "pin 07 10 whole"), 1);
        due("row", x.of(0, 0), 7);
        due("slot", x.of(0, 1), 10);
        due("stitch", x.of(0, 2), 4);
        due("stitches", told(x, "pin 99 0 cross;pin 98 0 twist;pin 97 0 half;pin 96 00 cloth"), 4);
        for (int p = 1; p <= 4; p++) due("stitch", x.of(p, 2), p - 1);
        due("turns", told(x, "turn 11 5;empty 3;fill 3;empty 04;turn 1 99;turn 1 99"), 6);
        due("turns", x.count(2), 1);
        due("filled", x.filled(11, 5), 0);
        due("filled", x.filled(3, 0), 1);
        due("filled", x.filled(4, 0), 0);
        due("filled", x.filled(1, 99), 1);
        StringBuilder most = new StringBuilder("fill 0");
        for (int i = 1; i < 17; i++) most.append(";fill 0");
        due("as many as can be", told(x, most.toString()), 17);
        LacePins y = begin("35 pricking", 6);
        due("a later part sees an earlier one", told(y, "pin 1 0 half;pin 1 1 half"), -301);
        due("nothing is told", y.count(1), 0);
    }

    private static void p35Faults() {
        String[] texts = {
            "", " pin 0 0 half", "pi", "pinn 0 0 half", "Pin 0 0 half", "cross 0", "pin", "pin0",
            "pin ", "pin  0", "pin x", "pin 0", "pin 0;", "pin 000 0 half", "pin 0 ", "pin 0 0",
            "pin 0 0;", "pin 0 123 half", "pin 0 0 ", "pin 0 0  half", "pin 0 0 pin",
            "pin 0 0 hal", "pin 0 0 halfe", "pin 0 0 Half", "pin 0 0 half ", "pin 0 0 half0",
            "pin 0 0 half;", "pin 0 0 half;;", "pin 0 0 half; pin 0 3 half", "turn 0 0 ", "turn 0",
            "turn 0 100", "turn 00 1;turn 1", "fill 0;fil 1", "fill 123", "empty 1 1", "empty",
            "xin 0 0 half", "fillz 0", "zfill 0", "fill{0", "`", "fill 0;pin 0 0 whola", "fill :", "fill /",
            "fill 1:fill 2", "fill -1", "fill 1a", "pin 0 0 half;turnx 1", "fill", "fill 9;x"};
        int[] faults = {
            0, 0, 0, 0, 0, 0, 3, 3,
            4, 4, 4, 5, 5, 6, 6, 7,
            7, 8, 8, 8, 8,
            8, 8, 8, 12, 12,
            13, 13, 13, 8, 6,
            9, 16, 7, 7, 7, 5,
            0, 0, 0, 4, 0, 15, 5, 5,
            6, 5, 6, 13, 4, 7};
        for (int i = 0; i < texts.length; i++) {
            LacePins x = begin("35 faults", 6);
            due("'" + texts[i] + "'", told(x, texts[i]), -100 - faults[i]);
            due("nothing is told", x.count(1) + x.count(2), 0);
        }
        StringBuilder full = new StringBuilder("fill 0");
        while (full.length() + 7 < 120) full.append(";fill 0");
        full.append(";");
        LacePins x = begin("35 faults", 6);
        due("at the very end", told(x, full.toString()), -100 - full.length());
    }

    private static void p35Unfit() {
        LacePins x = begin("35 unfit", 4);
        due("slot of a pin", told(x, "fill 0;pin 0 3 half"), -301);
        due("slot of a turn", told(x, "turn 4 0"), -300);
        due("slot of empty", told(x, "empty 2;pin 0 0 half;turn 1 1;empty 4"), -303);
        due("nothing is told", x.count(1) + x.count(2), 0);
        due("nothing is told", x.filled(2, 0), 1);
        due("slot of fill", told(x, "fill 99"), -300);
        for (int i = 0; i < 9; i++) due("turn", x.turn(0, i), i + 1);
        due("too many turns", told(x, "turn 1 0;turn 1 1"), -301);
        due("one goes, one comes", told(x, "turn 1 0;turn 0 8;turn 1 1"), 3);
        due("turns", x.count(2), 10);
        due("a fault is ahead of what is unfit", told(x, "pin 0 3 half;x"), -113);
        for (int p = 0; p < 29; p++) due("pin", x.pin(50 + p, 1, 0), p);
        due("too many pins", told(x, "pin 0 0 half;pin 1 0 half"), -301);
        due("pins", x.count(1), 29);
        LacePins y = begin("35 unfit", 4);
        pins(y, at(0, 0, 0));
        due("work", y.work(0), 1);
        due("one is done", told(y, "fill 0;fill 1"), -300);
        due("a fault all the same", told(y, "fill 0;fil 1"), -107);
        due("undo", y.undo(), 0);
        due("told", told(y, "fill 0;fill 1"), 2);
    }

    private static void p36List() {
        LacePins x = begin("36 list", 6);
        for (int bad : new int[] {-1, 4, LOW, HIGH}) due("none", x.list(bad, 99), NONE);
        due("bad", x.list(0, 31), BAD);
        due("bad", x.list(0, HIGH), BAD);
        due("below", x.list(0, -1), BELOW);
        due("below", x.list(0, LOW), BELOW);
        due("still nothing", x.lay(0, 0), NOTHING);
        due("list", x.list(0, 30), 1);
        due("set", x.set(0, 29, 5), 1);
        due("other lists", x.set(1, 0, 0), NOTHING);
        due("bad", x.list(0, 31), BAD);
        due("it stays", x.get(0, 29), 5);
        due("shorter", x.list(0, 3), 1);
        due("get", x.get(0, 29), LacePins.NO);
        due("longer", x.list(0, 30), 1);
        for (int i = 0; i < 30; i++) due("set", x.set(0, i, i + 1), 1);
        due("list", x.list(1, 30), 1);
        due("set", x.set(1, 0, 8), 1);
        due("anew", x.list(0, 30), 1);
        for (int i = 0; i < 30; i++) due("all 0", x.get(0, i), 0);
        due("the next one stays", x.get(1, 0), 8);
        due("of no longs", x.list(3, 0), 1);
        due("beyond", x.set(3, 0, 1), BEYOND);
    }

    private static void p37Set() {
        LacePins x = begin("37 set", 6);
        for (int bad : new int[] {-1, 4, LOW, HIGH}) due("none", x.set(bad, 0, 1), NONE);
        due("nothing", x.set(2, -1, 1), NOTHING);
        due("list", x.list(2, 4), 1);
        due("list", x.list(3, 4), 1);
        for (int bad : new int[] {-1, 4, LOW, HIGH}) due("beyond", x.set(2, bad, 1), BEYOND);
        due("set", x.set(2, 0, Long.MAX_VALUE), 1);
        due("set", x.set(2, 3, Long.MIN_VALUE + 1), 1);
        due("get", x.get(2, 0), Long.MAX_VALUE);
        due("get", x.get(2, 1), 0);
        due("get", x.get(2, 3), Long.MIN_VALUE + 1);
        due("get", x.get(3, 0), 0);
    }

    private static void p38Get() {
        LacePins x = begin("38 get", 6);
        for (int bad : new int[] {-1, 4, LOW, HIGH}) due("no list", x.get(bad, 0), LacePins.NO);
        due("nothing", x.get(0, 0), LacePins.NO);
        due("list", x.list(0, 2), 1);
        for (int bad : new int[] {-1, 2, LOW, HIGH}) due("no place", x.get(0, bad), LacePins.NO);
        due("set", x.set(0, 1, -7), 1);
        due("get", x.get(0, 1), -7);
        due("get", x.get(0, 0), 0);
    }

    private static void p39Count() {
        LacePins x = begin("39 count", 8);
        pins(x, at(0, 1, 0), at(0, 4, 0), at(6, 1, 0));
        turns(x, 7, 5, 7, 6, 7, 7, 6, 1);
        due("feed", x.feed('a'), 1);
        due("draft", x.draft(0), 8);
        due("work", x.work(1), 1);
        int[] want = {8, 3, 4, 1, 1, 8, 4, 1, 3};
        for (int what = 0; what <= 8; what++) due("count " + what, x.count(what), want[what]);
        for (int bad : new int[] {-1, 9, LOW, HIGH}) due("what", x.count(bad), NONE);
    }

    private static void p40Image() {
        LacePins x = begin("40 image", 3);
        due("no pins", x.image(), 0);
        pins(x, at(0, 0, 0), at(1, 0, 0));
        due("two", x.image(), 2);
        due("work", x.work(0), 1);
        due("the later one is kept", x.restore(), 2);
        due("row", x.of(1, 0), 1);
        due("done", x.count(3), 0);
        due("stitch", x.stitch(0, 3), 0);
        due("it is not changed by what comes", x.restore(), 2);
        due("stitch", x.of(0, 2), 0);
    }

    private static void p41Restore() {
        LacePins x = begin("41 restore", 4);
        due("there is none", x.restore(), STATE);
        pins(x, at(0, 0, 4), at(0, 2, 3), at(1, 1, 2));
        turns(x, 0, 9, 3, 8);
        due("fill", x.fill(1, true), 1);
        due("hand", x.hand(3), 0);
        due("work", x.work(1), 1);
        due("hand", x.hand(1), 2);
        due("work", x.work(0), 2);
        int[] where = new int[8];
        int[] overs = new int[8];
        for (int t = 0; t < 8; t++) {
            where[t] = x.where(t);
            overs[t] = x.overs(t);
        }
        due("image", x.image(), 3);
        due("feed", x.feed('a'), 1);
        due("list", x.list(0, 1), 1);
        due("work", x.work(2), 3);
        due("loom", x.loom(12), 4);
        due("draft", x.draft(0), 12);
        pins(x, at(50, 9, 0), at(51, 9, 0), at(52, 9, 0));
        turns(x, 11, 60, 11, 61);
        due("workAll", x.workAll(), 3);
        due("restore", x.restore(), 3);
        due("slots", x.count(0), 4);
        due("turns", x.count(2), 2);
        for (int p = 0; p < 3; p++) due("row", x.of(p, 0), p / 2);
        for (int p = 0; p < 3; p++) due("stitch", x.of(p, 2), 4 - p);
        due("slot", x.of(2, 1), 1);
        due("filled", x.filled(0, 8), 1);
        due("filled", x.filled(0, 9), 0);
        due("filled", x.filled(3, 8), 0);
        due("done", x.pins(2), 0b011);
        due("hand", x.count(6), 0);
        for (int t = 0; t < 8; t++) {
            due("where", x.where(t), where[t]);
            due("overs", x.overs(t), overs[t]);
        }
        due("tape stays", x.count(4), 1);
        due("paper stays", x.count(5), 12);
        due("lists stay", x.get(0, 0), 0);
        due("undo", x.undo(), 1);
        due("hand", x.count(6), 1);
        due("undo", x.undo(), 0);
        due("hand", x.count(6), 3);
        for (int t = 0; t < 8; t++) due("where", x.where(t), t);
        due("undo", x.undo(), STATE);
        due("restore again", x.restore(), 3);
        due("done", x.count(3), 2);
    }
}
