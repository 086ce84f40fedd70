/** Promises 29 to 35: each sentence that names a boundary case. */
public final class TextBoundariesTest extends Boundaries {
    private static final Setup IDLE = TextBoundariesTest::idle, BUSY = TextBoundariesTest::busy;

    public static void main(String[] args) throws Exception {
        run(TextBoundariesTest.class, 29, 35);
    }

    private static void drafted(LacePins x, int row, String want) {
        due("draft " + row, x.draft(row), want.length());
        same("DRAFT of ROW " + row, paperOf(x), want);
    }

    private static void fault(String text, int place) {
        due("'" + text + "'", told(new LacePins(), text), -100 - place);
    }

    private static String times(int n, String text) {
        StringBuilder all = new StringBuilder();
        for (int i = 0; i < n; i++) all.append(text);
        return all.toString();
    }

    /** As many PARTS as there is place for: 119 bytes. */
    private static String seventeenParts() {
        return times(16, "fill 0;") + "empty 0";
    }

    // ---- 29 draft

    @Says("THE PAPER becomes the DRAFT of a ROW (0 .. 99): its length. BAD")
    static void p29RowNotAsTold() {
        for (int row : below(0)) leavesAll(BUSY, "draft " + row, x -> x.draft(row), BAD);
        for (int row : above(99)) leavesAll(BUSY, "draft " + row, x -> x.draft(row), BAD);
    }

    @Says("DRAFT of a ROW: a text of W signs")
    static void p29EachWidth() {
        for (int w = 2; w <= 12; w++) drafted(made(loom(w)), 5, times(w, "|"));
    }

    @Says("the DRAFT of a ROW (0 .. 99)")
    static void p29FirstAndLastRow() {
        LacePins x = new LacePins();
        x.pin(0, 0, 0);
        x.pin(99, 4, 0);
        drafted(x, 0, "()||||");
        drafted(x, 1, "||||||");
        drafted(x, 98, "||||||");
        drafted(x, 99, "||||()");
    }

    @Says("of a SLOT . if it is EMPTY at the ROW")
    static void p29EmptyAheadOfPins() {
        for (int empty = 0; empty < 4; empty++) {
            LacePins x = made(loom(4));
            x.pin(5, 1, 0);
            x.fill(empty, false);
            drafted(x, 5, new String[] {".()|", "|.)|", "|(.|", "|()."}[empty]);
        }
        LacePins x = made(loom(3));
        for (int s = 0; s < 3; s++) x.fill(s, false);
        drafted(x, 0, "...");
        x.turn(1, 7);
        drafted(x, 6, "...");
        drafted(x, 7, ".|.");
    }

    @Says("else of a PIN of that ROW ( for its first and ) for its second SLOT, else |")
    static void p29FullRow() {
        LacePins x = made(loom(12));
        for (int p = 0; p < 6; p++) x.pin(7, 2 * p, 0);
        drafted(x, 7, "()()()()()()");
        x.workAll();
        drafted(x, 7, "()()()()()()");
    }

    @Says("THE PAPER becomes the DRAFT of a ROW")
    static void p29ShorterThanTheOneAhead() {
        LacePins x = made(loom(12));
        drafted(x, 0, "||||||||||||");
        x.loom(2);
        due("it stays", x.count(5), 12);
        drafted(x, 0, "||");
        due("no more of the old one", x.paper(2), NONE);
        due("bytes", x.count(5), 2);
    }

    @Says("what is asked changes nothing but THE PAPER")
    static void p29ChangesThePaperOnly() {
        LacePins x = made(BUSY);
        due("draft", x.draft(99), 5);
        due("and back", x.draft(3), 5);
        same("else as it was", traces(x), traces(made(BUSY)));
    }

    // ---- 30 paper

    @Says("Byte i of THE PAPER. NONE")
    static void p30NoSuchByte() {
        for (int i : outside(0, 4)) leavesAll(BUSY, "paper " + i, x -> x.paper(i), NONE);
        due("nothing yet", new LacePins().paper(0), NONE);
    }

    @Says("Byte i of THE PAPER. NONE")
    static void p30FirstAndLast() {
        LacePins x = made(loom(12));
        x.pin(0, 10, 0);
        x.fill(0, false);
        x.draft(0);
        due("first", x.paper(0), '.');
        due("last", x.paper(11), ')');
        due("behind it", x.paper(12), NONE);
    }

    @Says("THE PAPER")
    static void p30StaysWhatItWas() {
        LacePins x = made(loom(2));
        x.pin(0, 0, 0);
        x.draft(0);
        x.drop();
        x.fill(0, false);
        due("it isn't drawn anew", x.paper(0), '(');
    }

    @Says("what is asked changes nothing")
    static void p30AsksOnly() {
        leavesAll(BUSY, "paper", x -> x.paper(4));
    }

    // ---- 31 lay

    @Says("NONE; NOTHING; BEYOND: not all were")
    static void p31NoSuchList() {
        for (int list : outside(0, 3)) leavesAll(BUSY, "list " + list, x -> x.lay(list, 0), NONE);
    }

    @Says("NOTHING (-11): there is none")
    static void p31NothingThere() {
        for (int list = 0; list <= 3; list++) {
            int asked = list;
            leavesAll(NEW, "list " + list, x -> x.lay(asked, 0), NOTHING);
        }
    }

    @Says("BEYOND: not all were (those that had a place are there all the same; none, if i is below 0)")
    static void p31BelowZero() {
        for (int i : below(0)) leavesAll(BUSY, "lay from " + i, x -> x.lay(0, i), BEYOND);
    }

    @Says("BEYOND: not all were (those that had a place are there all the same; none, if i is below 0)")
    static void p31ThoseThatHadAPlace() {
        for (int i = 0; i <= 30; i++) {
            LacePins x = made(loom(12));
            x.list(0, 30);
            for (int j = 0; j < 30; j++) x.set(0, j, 99);
            due("lay from " + i, x.lay(0, i), i <= 6 ? 24 : BEYOND);
            for (int j = 0; j < 30; j++) due("place " + j, x.get(0, j), j < i || j - i > 23 ? 99 : j - i);
        }
    }

    @Says("BEYOND: not all were")
    static void p31FarBeyond() {
        for (int i : above(11)) leavesAll(BUSY, "lay from " + i, x -> x.lay(0, i), BEYOND);
        leavesAll(BUSY, "into a LIST of no longs", x -> x.lay(1, 0), BEYOND);
    }

    @Says("BEYOND: not all were")
    static void p31OneShort() {
        LacePins x = made(loom(2));
        x.list(3, 4);
        due("as many places as threads", x.lay(3, 0), 4);
        x.list(3, 3);
        due("one place too few", x.lay(3, 0), BEYOND);
        for (int i = 0; i < 3; i++) due("place " + i, x.get(3, i), i);
        x.list(3, 4);
        due("from the second place on", x.lay(3, 1), BEYOND);
        due("the first stays", x.get(3, 0), 0);
        due("the last", x.get(3, 3), 2);
    }

    @Says("Threads are laid into a LIST from i on: how many (2 W)")
    static void p31EachWidth() {
        for (int w = 2; w <= 12; w++) {
            LacePins x = made(loom(w));
            x.list(2, 2 * w);
            due("W " + w, x.lay(2, 0), 2 * w);
            due("the last", x.get(2, 2 * w - 1), 2 * w - 1);
        }
    }

    @Says("LISTS 0 .. 3")
    static void p31NotIntoAnotherList() {
        LacePins x = made(loom(12));
        for (int list = 0; list <= 3; list++) x.list(list, 30);
        due("lay", x.lay(1, 29), BEYOND);
        due("the last place", x.get(1, 29), 0);
        due("lay", x.lay(1, 20), BEYOND);
        for (int i = 0; i < 30; i++) {
            due("LIST 0", x.get(0, i), 0);
            due("LIST 2", x.get(2, i), 0);
        }
    }

    @Says("the first that a call's words name")
    static void p31OrderOfAnswers() {
        due("NONE ahead of BEYOND", made(BUSY).lay(4, -1), NONE);
        due("NOTHING ahead of BEYOND", made(BUSY).lay(3, -1), NOTHING);
        due("NOTHING ahead of BEYOND", made(BUSY).lay(3, 30), NOTHING);
    }

    @Says("what is asked changes nothing but THE PAPER and LISTS that are told")
    static void p31ChangesTheListOnly() {
        LacePins x = made(BUSY);
        due("lay", x.lay(0, 2), 10);
        for (int i = 0; i < 12; i++) due("set back", x.set(0, i, Math.min(Math.max(i - 1, 0), 9)), 1);
        due("set back", x.set(0, 11, 0), 1);
        same("else as it was", traces(x), traces(made(BUSY)));
    }

    // ---- 32 seen

    /** One PIN in two SLOTS, and its four threads behind a STITCH in LIST 0 from place 1 on. */
    private static Setup seenBy(int stitch) {
        int[][] behind = {{0, 2, 1, 3}, {1, 0, 3, 2}, {2, 0, 3, 1}, {2, 3, 0, 1}, {3, 2, 1, 0}};
        return then(chain(2), x -> {
            x.list(0, 5);
            for (int i = 0; i < 4; i++) x.set(0, i + 1, behind[stitch][i]);
        });
    }

    @Says("NONE: pin, list; NOTHING; BEYOND (a place below 0, too); STATE: the PIN isn't READY")
    static void p32NoSuchPin() {
        for (int pin : outside(0, 1)) leavesAll(seenBy(0), "pin " + pin, x -> x.seen(pin, 0, 1), NONE);
        due("no PINS", made(then(loom(2), x -> x.list(0, 4))).seen(0, 0, 0), NONE);
    }

    @Says("NONE: pin, list; NOTHING; BEYOND (a place below 0, too); STATE: the PIN isn't READY")
    static void p32NoSuchList() {
        for (int list : outside(0, 3)) leavesAll(seenBy(0), "list " + list, x -> x.seen(0, list, 1), NONE);
    }

    @Says("NONE: pin, list; NOTHING; BEYOND (a place below 0, too); STATE: the PIN isn't READY")
    static void p32NothingThere() {
        for (int list = 1; list <= 3; list++) {
            int asked = list;
            leavesAll(seenBy(0), "list " + list, x -> x.seen(0, asked, 0), NOTHING);
        }
    }

    @Says("BEYOND (a place below 0, too)")
    static void p32Beyond() {
        for (int i : outside(0, 1)) leavesAll(seenBy(0), "from " + i, x -> x.seen(0, 0, i), BEYOND);
        leavesAll(then(chain(1), x -> x.list(0, 0)), "a LIST of no longs", x -> x.seen(0, 0, 0), BEYOND);
        leavesAll(then(chain(1), x -> x.list(0, 3)), "one place too few", x -> x.seen(0, 0, 0), BEYOND);
        for (int w = 2; w <= 12; w++) {
            LacePins x = made(loom(w));
            x.pin(0, 0, 0);
            x.list(1, 2 * w);
            due("as many places as threads of " + w, x.seen(0, 1, 0), 0);
            due("from the second place on", x.seen(0, 1, 1), BEYOND);
            x.list(1, 2 * w - 1);
            due("one place too few for " + w, x.seen(0, 1, 0), BEYOND);
        }
        due("from the last place on", made(seenBy(0)).seen(0, 0, 1), 1);
        due("from the first place on", made(seenBy(0)).seen(0, 0, 0), 0);
    }

    @Says("STATE: the PIN isn't READY")
    static void p32NotReady() {
        leavesAll(seenBy(0), "it NEEDS one", x -> x.seen(1, 0, 1), STATE);
        leavesAll(then(seenBy(0), x -> x.work(0)), "it is DONE", x -> x.seen(0, 0, 1), STATE);
        leavesAll(then(seenBy(0), x -> x.fill(1, false)), "it LACKS a pair", x -> x.seen(0, 0, 1), STATE);
    }

    @Says("the first that a call's words name")
    static void p32OrderOfAnswers() {
        due("pin ahead of NOTHING", made(seenBy(0)).seen(2, 1, -1), NONE);
        due("pin ahead of BEYOND", made(seenBy(0)).seen(2, 0, 9), NONE);
        due("list ahead of BEYOND and STATE", made(seenBy(0)).seen(1, 4, -1), NONE);
        due("NOTHING ahead of BEYOND and STATE", made(seenBy(0)).seen(1, 1, -1), NOTHING);
        due("NOTHING ahead of STATE", made(seenBy(0)).seen(1, 1, 0), NOTHING);
        due("BEYOND ahead of STATE", made(seenBy(0)).seen(1, 0, 2), BEYOND);
        due("a place below 0 ahead of STATE", made(seenBy(0)).seen(1, 0, -1), BEYOND);
    }

    @Says("STITCHES (bits) by which, were a PIN that is READY WORKED with that one, threads would be so")
    static void p32EachStitchAndNone() {
        for (int s = 0; s <= 4; s++) {
            due("STITCH " + s, made(seenBy(s)).seen(0, 0, 1), 1 << s);
            LacePins x = made(seenBy(s));
            x.set(0, 1, x.get(0, 1) ^ 1L << 40);
            due("a number that is no thread", x.seen(0, 0, 1), 0);
            LacePins y = made(seenBy(s));
            y.set(0, 4, -1 - y.get(0, 4));
            due("a number below 0", y.seen(0, 0, 1), 0);
        }
        LacePins x = made(chain(1));
        x.list(0, 4);
        x.lay(0, 0);
        due("threads as they are: by no STITCH", x.seen(0, 0, 0), 0);
    }

    @Says("2 W numbers of a LIST, the threads of SLOTS 0, 1, .. (left, right)")
    static void p32AllSlotsCount() {
        LacePins x = made(loom(12));
        x.pin(0, 10, WHOLE);
        x.list(3, 30);
        x.work(0);
        x.lay(3, 6);
        x.undo();
        due("all 24", x.seen(0, 3, 6), 1 << WHOLE);
        x.set(3, 6, 1);
        due("the first one is another", x.seen(0, 3, 6), 0);
        x.set(3, 6, 0);
        x.set(3, 29, 23);
        due("the last one is another", x.seen(0, 3, 6), 0);
        x.set(3, 29, 20);
        due("as it was", x.seen(0, 3, 6), 1 << WHOLE);
        x.set(3, 5, 77);
        due("what is ahead doesn't count", x.seen(0, 3, 6), 1 << WHOLE);
    }

    @Says("what is asked changes nothing")
    static void p32AsksOnly() {
        for (int s = 0; s <= 4; s++) leavesAll(seenBy(s), "seen", x -> x.seen(0, 0, 1));
        leavesAll(then(seenBy(0), x -> x.work(0)), "seen", x -> x.seen(1, 0, 1));
        leavesAll(BUSY, "seen", x -> x.seen(2, 0, 1));
    }

    // ---- 33 feed

    @Says("A byte (1 .. 127) comes behind THE TAPE's: how many it has. BAD; FULL")
    static void p33NotAsTold() {
        for (int letter : outside(1, 127)) leavesAll(BUSY, "feed " + letter, x -> x.feed(letter), BAD);
    }

    @Says("A byte (1 .. 127) comes behind THE TAPE's: how many it has")
    static void p33LeastAndMost() {
        LacePins x = new LacePins();
        due("1", x.feed(1), 1);
        due("127", x.feed(127), 2);
        due("the FAULT", x.pricking(), -100);
    }

    @Says("THE TAPE (120 bytes at most)")
    static void p33Full() {
        LacePins x = new LacePins();
        for (int n = 1; n <= 120; n++) due("feed", x.feed('f'), n);
        due("the one behind", x.feed('f'), FULL);
        due("bytes", x.count(4), 120);
        due("clear", x.clear(), 120);
        due("there is place again", x.feed('f'), 1);
    }

    @Says("THE TAPE (120 bytes at most)")
    static void p33FullChangesNothing() {
        LacePins x = new LacePins();
        feedAll(x, seventeenParts());
        due("the last byte", x.feed(' '), 120);
        due("no more", x.feed('1'), FULL);
        due("the last byte is the FAULT", x.pricking(), -219);
        LacePins y = new LacePins();
        feedAll(y, seventeenParts());
        due("a third figure is as good as any", y.feed('1'), 120);
        due("no more", y.feed('1'), FULL);
        due("SLOT 01 is EMPTY", y.pricking(), 17);
        due("filled", y.filled(1, 0), 0);
    }

    @Says("the first that a call's words name")
    static void p33BadAheadOfFull() {
        LacePins x = made(y -> feedAll(y, times(120, "f")));
        due("0", x.feed(0), BAD);
        due("128", x.feed(128), BAD);
        due("32", x.feed(32), FULL);
    }

    @Says("A byte (1 .. 127) comes behind THE TAPE's")
    static void p33WhileOneIsDone() {
        due("it isn't refused", made(BUSY).feed('x'), 7);
    }

    // ---- 34 clear

    @Says("THE TAPE is empty then: how many bytes it had")
    static void p34EmptyAndFull() {
        leavesAll(NEW, "nothing there", x -> x.clear(), 0);
        LacePins x = made(y -> feedAll(y, times(120, "f")));
        due("120", x.clear(), 120);
        due("nothing", x.clear(), 0);
        due("bytes", x.count(4), 0);
    }

    @Says("THE TAPE is empty then")
    static void p34NothingIsLeft() {
        LacePins x = new LacePins();
        feedAll(x, "fill 0;");
        due("clear", x.clear(), 7);
        due("none of the old text", told(x, "fill 1"), 1);
        due("while one is DONE", made(BUSY).clear(), 6);
    }

    // ---- 35 pricking: what is taken

    @Says("R 1 or 2 figures, S 1 or 2 figures (two at most are taken)")
    static void p35OneOrTwoFigures() {
        String[] texts = {"pin 0 0 half", "pin 00 00 half", "pin 9 4 half", "pin 09 04 half", "pin 99 10 half"};
        int[] rowSlot = {0, 0, 0, 0, 9, 4, 9, 4, 99, 10};
        for (int i = 0; i < texts.length; i++) {
            LacePins x = made(loom(12));
            due(texts[i], told(x, texts[i]), 1);
            due("ROW", x.of(0, 0), rowSlot[2 * i]);
            due("SLOT", x.of(0, 1), rowSlot[2 * i + 1]);
        }
    }

    @Says("a word (cross, twist, half, cloth, whole)")
    static void p35EachWord() {
        String[] words = {"cross", "twist", "half", "cloth", "whole"};
        for (int s = 0; s <= 4; s++) {
            LacePins x = new LacePins();
            due(words[s], told(x, "pin 1 2 " + words[s]), 1);
            due("STITCH", x.of(0, 2), s);
        }
    }

    @Says("turn S R, empty S, fill S (at first)")
    static void p35TheOtherParts() {
        LacePins x = made(loom(12));
        due("turn", told(x, "turn 11 99"), 1);
        due("ahead of the ROW", x.filled(11, 98), 1);
        due("at the ROW", x.filled(11, 99), 0);
        due("turn goes", told(x, "turn 11 99"), 1);
        due("TURNS", x.count(2), 0);
        due("empty", told(x, "empty 11"), 1);
        due("at first", x.filled(11, 0), 0);
        due("fill", told(x, "fill 11"), 1);
        due("at first", x.filled(11, 0), 1);
    }

    @Says("PARTS, one or more, parted by ;")
    static void p35OneAndMostParts() {
        due("one", told(new LacePins(), "fill 0"), 1);
        due("two", told(new LacePins(), "fill 0;fill 0"), 2);
        LacePins x = new LacePins();
        due("seventeen", told(x, seventeenParts()), 17);
        due("the last one, too", x.filled(0, 0), 0);
    }

    @Says("THE TAPE (120 bytes at most)")
    static void p35FullTape() {
        LacePins x = new LacePins();
        String text = times(9, "pin 0 0 half;");
        due("a byte that isn't taken", feedAll(x, text + "xyz"), 120);
        due("the FAULT", x.pricking(), -217);
        LacePins y = made(loom(12));
        String pins = "pin 01 01 half;pin 02 02 whole;pin 03 03 cloth;pin 04 04 twist;"
            + "pin 05 05 cross;pin 06 6 half;pin 7 7 half;pin 88 8 whole";
        due("120 bytes", feedAll(y, pins), 120);
        due("eight PINS", y.pricking(), 8);
        due("the last ROW", y.of(7, 0), 88);
        LacePins z = new LacePins();
        due("120 bytes, a number of one figure last", feedAll(z, times(16, "fill 0;") + "turn 4 1"), 120);
        due("seventeen", z.pricking(), 17);
        due("ROW 1", z.filled(4, 1), 0);
        due("ROW 0", z.filled(4, 0), 1);
        LacePins n = new LacePins();
        due("120 bytes, a blank last", feedAll(n, times(16, "fill 0;") + "turn  0 "), 120);
        due("the FAULT", n.pricking(), -217);
        LacePins e = new LacePins();
        due("120 bytes, a ; last", feedAll(e, times(16, "fill 0;") + "fill 01;"), 120);
        due("the length", e.pricking(), -220);
    }

    // ---- 35 pricking: the FAULT

    @Says("PARTS, one or more")
    static void p35NoText() {
        fault("", 0);
        LacePins x = new LacePins();
        x.feed('f');
        x.clear();
        due("behind clear", x.pricking(), -100);
    }

    @Says("of a word that may not be there, where it begins")
    static void p35NoSuchKind() {
        fault("pinn 0 0 half", 0);
        fault("pi 0 0 half", 0);
        fault("xpin 0 0 half", 0);
        fault("xin 0 0 half", 0);
        fault("pix 0 0 half", 0);
        fault("burn 0 0", 0);
        fault("empti 0", 0);
        fault("bill 0", 0);
        fault("turns 0 0", 0);
        fault("emptyy 0", 0);
        fault("half 0", 0);
        fault("fill 0;xfill 0", 7);
        fault("fill 0;pin 0 0 half;filled 0", 20);
    }

    @Says("of a word that may not be there, where it begins")
    static void p35NoSuchStitch() {
        fault("pin 0 0 hal", 8);
        fault("pin 0 0 halff", 8);
        fault("pin 0 0 calf", 8);
        fault("pin 0 0 cloty", 8);
        fault("pin 10 0 pin", 9);
        fault("pin 10 10 lace", 10);
        fault("pin 0 0 h;fill 0", 8);
        fault("fill 0;pin 0 0 clothx", 15);
    }

    @Says("where it begins (an empty one, too)")
    static void p35EmptyWord() {
        fault(";fill 0", 0);
        fault(" fill 0", 0);
        fault("0", 0);
        fault("fill 0;;fill 0", 7);
        fault("fill 0; fill 0", 7);
        fault("pin 0 0  half", 8);
        fault("pin 0 0 ;fill 0", 8);
        fault("pin 0 0 0", 8);
    }

    @Says("A word is as many letters a .. z as stand there")
    static void p35LettersOfAWord() {
        fault("Pin 0 0 half", 0);
        fault("pIn 0 0 half", 0);
        fault("pin 0 0 Half", 8);
        fault("pin 0 0 half{", 12);
        fault("pin 0 0 half`", 12);
        fault("pin 0 0 halfA", 12);
        fault("pin 0 0 halfa", 8);
        fault("pin 0 0 halfz", 8);
        fault("fill{0", 4);
        fault("fill`0", 4);
        fault("filla0", 0);
        fault("fillz0", 0);
    }

    @Says("the place (from 0) of the first byte with which no such text goes on")
    static void p35NoSuchTextGoesOn() {
        fault("fill0", 4);
        fault("pin0 0 half", 3);
        fault("pin0", 3);
        fault("turn0 0", 4);
        fault("turn0", 4);
        fault("fill,0", 4);
        fault("fill x", 5);
        fault("fill /", 5);
        fault("fill :", 5);
        fault("fill -1", 5);
        fault("fill ;fill 0", 5);
        fault("fill 0 ", 6);
        fault("fill 0,fill 0", 6);
        fault("fill 0:fill 0", 6);
        fault("fill 0x", 6);
        fault("turn 0;fill 0", 6);
        fault("turn 0 ;fill 0", 7);
        fault("turn 0 0 half", 8);
        fault("pin 0 0;fill 0", 7);
        fault("pin 0 0half", 7);
        fault("pin 0 0 half ", 12);
        fault("pin 0 0 half0", 12);
        fault("pin 0 0 half fill 0", 12);
        fault("empty 0 0", 7);
    }

    @Says("one blank ahead of each and of the word")
    static void p35OneBlank() {
        fault("pin  0 0 half", 4);
        fault("pin 0  0 half", 6);
        fault("pin 0 0  half", 8);
        fault("turn  0 0", 5);
        fault("turn 0  0", 7);
        fault("fill  0", 5);
        fault("pin\t0 0 half", 3);
        fault("fill\n0", 4);
    }

    @Says("In a PRICKING the third figure of a number is the FAULT.")
    static void p35ThirdFigure() {
        fault("pin 000 0 half", 6);
        fault("pin 0 000 half", 8);
        fault("pin 00 123 half", 9);
        fault("turn 000 0", 7);
        fault("turn 0 100", 9);
        fault("empty 123", 8);
        fault("fill 000", 7);
        fault("fill 0;fill 012", 14);
    }

    @Says("the length, if it ends too early (if an empty word is there, too)")
    static void p35EndsTooEarly() {
        String[] texts = {"pin", "pin ", "pin 0", "pin 00", "pin 0 ", "pin 0 0", "pin 0 0 ", "turn", "turn ", "turn 0",
            "turn 00", "turn 0 ", "empty", "empty ", "fill", "fill ", "fill 0;", "fill 0;fill 0;", "pin 0 0 half;",
            "turn 0 0;", "empty 0;turn 0 0;pin"};
        for (String text : texts) fault(text, text.length());
        String longest = times(17, "fill 0;");
        fault(longest, 119);
    }

    @Says("FAULT (the first that is met from the left)")
    static void p35TheFirstFault() {
        fault("fil 0;fil 0", 0);
        fault("fill x;fil 0", 5);
        fault("pin x y halff", 4);
        fault("fill 000;", 7);
        fault("pin 0 100 halff;x", 8);
    }

    // ---- 35 pricking: UNFIT, and what it leaves

    @Says("UNFIT: the first PART (from 0) that, told one by one, would be refused")
    static void p35UnfitByNumbers() {
        due("SLOT of a PIN", told(new LacePins(), "pin 0 5 half"), -300);
        due("the last SLOT of a PIN", told(new LacePins(), "pin 0 4 half"), 1);
        due("SLOT of a TURN", told(new LacePins(), "fill 0;turn 6 0"), -301);
        due("the last SLOT of a TURN", told(new LacePins(), "fill 0;turn 5 0"), 2);
        due("SLOT of empty", told(new LacePins(), "fill 0;fill 0;empty 6"), -302);
        due("SLOT of fill", told(new LacePins(), "fill 99"), -300);
        due("the last of seventeen", told(made(loom(2)), times(16, "fill 0;") + "fill 2"), -316);
    }

    @Says("UNFIT: the first PART (from 0) that, told one by one, would be refused")
    static void p35UnfitByPartsAhead() {
        due("a SLOT is shared", told(new LacePins(), "pin 3 0 half;pin 3 1 half"), -301);
        due("side by side", told(new LacePins(), "pin 3 0 half;pin 3 2 half"), 2);
        due("shared with one that was there", told(made(then(IDLE, x -> x.clear())), "pin 4 0 half;pin 3 1 half"), -301);
        Setup nine = x -> {
            for (int row = 0; row < 9; row++) x.turn(0, row);
        };
        due("the eleventh TURN", told(made(nine), "turn 1 0;turn 1 1"), -301);
        due("one goes ahead of it", told(made(nine), "turn 1 0;turn 0 0;turn 1 1"), 3);
        due("the thirty-first PIN", told(made(chain(29)), "pin 90 0 half;pin 91 0 half"), -301);
        due("of several the first", told(new LacePins(), "fill 0;fill 6;fill 7"), -301);
    }

    @Says("(the first of all, -300, while a PIN is DONE)")
    static void p35WhileOneIsDone() {
        due("fill", told(made(then(BUSY, x -> x.clear())), "fill 0;fill 0"), -300);
        due("pin", told(made(then(BUSY, x -> x.clear())), "pin 0 0 half"), -300);
        due("a later PART is UNFIT", told(made(then(BUSY, x -> x.clear())), "fill 0;fill 9"), -300);
        due("all are UNDONE", told(made(then(BUSY, x -> {
            x.undo();
            x.undo();
            x.clear();
        })), "fill 0;fill 0"), 2);
    }

    @Says("-100 less the FAULT; -300 less the UNFIT one")
    static void p35FaultAheadOfUnfit() {
        due("UNFIT ahead of the FAULT", told(new LacePins(), "fill 9;fil 0"), -107);
        due("while one is DONE", told(made(then(BUSY, x -> x.clear())), "fil 0"), -100);
    }

    @Says("It is told as a whole, or nothing")
    static void p35TheWholeOrNothing() {
        Setup cleared = then(IDLE, x -> x.clear());
        LacePins x = made(cleared);
        due("UNFIT", told(x, "turn 4 6;turn 2 2;pin 9 0 half;empty 2;fill 4;pin 3 1 half"), -305);
        same("nothing is told", traces(x), traces(made(cleared)));
        LacePins y = made(cleared);
        due("a FAULT", told(y, "turn 4 6;turn 2 2;pin 9 0 half;empty 2;fill 4;pin 3 1 hal"), -154);
        same("nothing is told", traces(y), traces(made(cleared)));
        LacePins z = made(then(BUSY, w -> w.clear()));
        due("while one is DONE", told(z, "turn 4 6"), -300);
        same("nothing is told", traces(z), traces(made(then(BUSY, w -> w.clear()))));
    }

    @Says("THE TAPE is empty behind each call that reads it")
    static void p35TheTapeIsEmpty() {
        String[] texts = {"fill 0", "fill 9", "fil 0", ""};
        for (String text : texts) {
            LacePins x = new LacePins();
            told(x, text);
            due("bytes behind '" + text + "'", x.count(4), 0);
            due("nothing to clear", x.clear(), 0);
            due("a text behind it", told(x, "fill 1"), 1);
        }
        LacePins x = made(BUSY);
        due("while one is DONE", x.pricking(), -300);
        due("bytes", x.count(4), 0);
    }

    @Says("THE TAPE is empty behind each call that reads it")
    static void p35NothingIsLeftOfTheTextAhead() {
        String ahead = "pin 11 44 half;fill 0;turn 22 33";
        String[] texts = {"pin", "pin ", "pin 1", "pin 11 ", "pin 11 4", "pin 11 44 ", "pin 11 44 half;fill"};
        for (String text : texts) {
            LacePins x = new LacePins();
            due("a longer one ahead", told(x, ahead), -300);
            due("'" + text + "'", told(x, text), -100 - text.length());
        }
        LacePins x = new LacePins();
        due("a longer one ahead", told(x, "fill 55"), -300);
        due("a figure fewer", told(x, "fill 5"), 1);
        due("a longer one ahead", told(x, "fill 5;fill 5;fill 5"), 3);
        due("PARTS fewer", told(x, "fill 5"), 1);
        due("a longer one ahead", told(x, "pin 0 0 halfx"), -108);
        due("a letter fewer", told(x, "pin 0 0 half"), 1);
    }
}
