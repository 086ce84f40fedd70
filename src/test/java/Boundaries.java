import java.io.IOException;
import java.lang.reflect.Method;
import java.nio.file.Files;
import java.nio.file.Path;
import java.util.ArrayList;
import java.util.Comparator;
import java.util.List;
import java.util.TreeMap;
import java.util.TreeSet;
import java.util.regex.Matcher;
import java.util.regex.Pattern;
import java.util.stream.IntStream;

/**
 * What the tests of boundary sentences share. A test is a method p<number of the promise><what it is about>, which
 * bears the document's words; it is found by its name, so that none is forgotten.
 */
class Boundaries {
    static final int NONE = -1, BAD = -2, STATE = -3, FULL = -4;
    static final int NOT_ANY = -5, NOTHING = -11, BEYOND = -13, BELOW = -14;
    static final long NO = Long.MIN_VALUE;
    static final int CROSS = 0, TWIST = 1, HALF = 2, CLOTH = 3, WHOLE = 4;
    static final int LOW = Integer.MIN_VALUE, HIGH = Integer.MAX_VALUE;

    private static final Path DOCUMENT = Path.of("../shared/DOC.md");
    private static final Pattern TEST_NAME = Pattern.compile("p(\\d+)([A-Z]\\w*)");
    private static final int[] ROWS_LOOKED_AT = {0, 1, 2, 3, 4, 5, 6, 7, 8, 9, 49, 50, 98, 99};

    private static final Check check = new Check();

    /** What is done with an object ahead of the call that a test is about. */
    interface Setup {
        void on(LacePins x);
    }

    interface Call {
        long on(LacePins x);
    }

    // ---- finding and running the tests

    /** Runs the tests of a class, which are those of the promises from first to last: each has one at least. */
    static void run(Class<?> tests, int first, int last) throws ReflectiveOperationException, IOException {
        TreeMap<Integer, TreeMap<String, Method>> byPromise = new TreeMap<>();
        for (int n = first; n <= last; n++) byPromise.put(n, new TreeMap<>());
        int found = 0;
        for (Method m : tests.getDeclaredMethods()) {
            Matcher name = TEST_NAME.matcher(m.getName());
            if (!name.matches()) continue;
            byPromise.get(Integer.parseInt(name.group(1))).put(name.group(2), m);
            found++;
        }
        for (int n : byPromise.keySet()) {
            check.topic("promise " + n);
            check.holds("there is a test", !byPromise.get(n).isEmpty());
            for (Method m : byPromise.get(n).values()) runOne(n, m);
        }
        System.out.print(found + " sentences' tests, ");
        check.end();
    }

    private static void runOne(int promise, Method m) throws ReflectiveOperationException, IOException {
        Says says = m.getAnnotation(Says.class);
        check.topic("promise " + promise + ", " + m.getName() + (says == null ? "" : " \"" + says.value() + "\""));
        check.holds("it bears words of the document", says != null && isSaid(promise, says.value()));
        long ahead = check.asked();
        m.setAccessible(true);
        m.invoke(null);
        check.holds("something was asked", check.asked() > ahead);
    }

    /** Whether the words stand in the document's terms, or under the promise's own heading. */
    private static boolean isSaid(int promise, String words) throws IOException {
        if (!Files.isReadable(DOCUMENT)) return true;
        String document = Files.readString(DOCUMENT).replaceAll("\\s+", " ");
        int terms = document.indexOf("## Terms"), promises = document.indexOf("## Promise 1:");
        int own = document.indexOf("## Promise " + promise + ":");
        int end = document.indexOf(" ## ", own + 1);
        return document.substring(terms, promises).contains(words) || document.substring(own, end).contains(words);
    }

    static void due(String call, long got, long want) {
        check.due(call, got, want);
    }

    static void same(String what, String got, String want) {
        check.holds(what + ": " + firstDifference(got, want), got.equals(want));
    }

    private static String firstDifference(String got, String want) {
        String[] a = got.split("\n"), b = want.split("\n");
        for (int i = 0; i < Math.min(a.length, b.length); i++) {
            if (!a[i].equals(b[i])) return a[i] + ", due is " + b[i];
        }
        return a.length + " answers, due are " + b.length;
    }

    // ---- objects

    static final Setup NEW = x -> { };

    static LacePins made(Setup setup) {
        LacePins x = new LacePins();
        setup.on(x);
        return x;
    }

    static Setup loom(int w) {
        return x -> x.loom(w);
    }

    static Setup then(Setup first, Setup second) {
        return x -> {
            first.on(x);
            second.on(x);
        };
    }

    /** PINS of one SLOT in ROWS below one another, each of which NEEDS the one ahead of it. */
    static Setup chain(int pins) {
        return x -> {
            x.loom(2);
            for (int p = 0; p < pins; p++) x.pin(p, 0, p % 5);
        };
    }

    /** Five SLOTS, four PINS, TURNS, LISTS, a TAPE, a PAPER, an IMAGE: something of all, nothing DONE. */
    static void idle(LacePins x) {
        x.loom(5);
        x.pin(3, 0, CLOTH);
        x.pin(3, 2, WHOLE);
        x.pin(5, 1, HALF);
        x.pin(7, 3, TWIST);
        x.turn(4, 6);
        x.turn(4, 50);
        x.turn(0, 1);
        x.turn(0, 2);
        x.hand(1);
        x.image();
        x.hand(4);
        x.draft(3);
        for (char c : "fill 0".toCharArray()) x.feed(c);
        x.list(0, 12);
        x.lay(0, 1);
        x.list(1, 0);
        x.list(2, 3);
        x.set(2, 1, -9);
    }

    /** The same with two PINS that are DONE. */
    static void busy(LacePins x) {
        idle(x);
        x.work(1);
        x.hand(3);
        x.work(0);
        x.hand(2);
    }

    // ---- refused calls, and calls that only ask

    /** The call answers so, and the object is in all as a twin that was never asked. */
    static void leavesAll(Setup setup, String call, Call asked, long want) {
        LacePins x = made(setup);
        due(call, asked.on(x), want);
        same(call + " changes nothing", traces(x), traces(made(setup)));
    }

    /** The call, whatever it answers, leaves the object in all as a twin that was never asked. */
    static void leavesAll(Setup setup, String call, Call asked) {
        LacePins x = made(setup);
        asked.on(x);
        same(call + " changes nothing", traces(x), traces(made(setup)));
    }

    /** Numbers that are not low .. high: those beside it, those that are like one of it behind a wrap-around. */
    static int[] outside(int low, int high) {
        return IntStream.of(low - 1, low - 2, high + 1, high + 2, LOW, LOW + 1, LOW + low, HIGH, HIGH - 1,
                low + 16, low + 32, low - 32, low + 64, low - 64, low + 256, low + 65536, high - 65536)
            .filter(i -> i < low || i > high).distinct().toArray();
    }

    static int[] below(int low) {
        return IntStream.of(outside(low, HIGH)).filter(i -> i < low).toArray();
    }

    static int[] above(int high) {
        return IntStream.of(outside(0, high)).filter(i -> i > high).toArray();
    }

    // ---- all that can be told of an object by its answers

    /** In this order: what can be asked, what can be UNDONE, what THE IMAGE holds, THE TAPE. */
    static String traces(LacePins x) {
        StringBuilder text = new StringBuilder();
        counts(x, text);
        pinsOf(x, text);
        slotsOf(x, text);
        threadsOf(x, text);
        paperAndLists(x, text);
        undone(x, text);
        tell(text, "restore", x.restore());
        counts(x, text);
        pinsOf(x, text);
        threadsOf(x, text);
        undone(x, text);
        tell(text, "pricking", x.pricking());
        return text.toString();
    }

    private static void tell(StringBuilder text, String call, long answer) {
        text.append(call).append(" answers ").append(answer).append('\n');
    }

    private static void counts(LacePins x, StringBuilder text) {
        for (int what = 0; what <= 8; what++) tell(text, "count " + what, x.count(what));
        for (int what = 0; what <= 2; what++) tell(text, "pins " + what, x.pins(what));
        tell(text, "acts", x.acts(0));
        for (int i = 0; i < x.count(7); i++) tell(text, "hang " + i, x.hang(i, 0));
    }

    private static void pinsOf(LacePins x, StringBuilder text) {
        for (int p = 0; p < x.count(1); p++) {
            for (int what = 0; what <= 2; what++) tell(text, "of " + p + " " + what, x.of(p, what));
        }
    }

    private static void slotsOf(LacePins x, StringBuilder text) {
        for (int s = 0; s < x.count(0); s++) {
            for (int row : ROWS_LOOKED_AT) tell(text, "filled " + s + " " + row, x.filled(s, row));
        }
    }

    private static void threadsOf(LacePins x, StringBuilder text) {
        for (int t = 0; t < 2 * x.count(0); t++) {
            tell(text, "where " + t, x.where(t));
            tell(text, "overs " + t, x.overs(t));
        }
    }

    private static void paperAndLists(LacePins x, StringBuilder text) {
        for (int i = 0; i < x.count(5); i++) tell(text, "paper " + i, x.paper(i));
        for (int list = 0; list < 4; list++) {
            // a LIST of no longs and none at all differ here
            tell(text, "set " + list, x.set(list, -1, 0));
            for (int i = 0; i < 30 && x.get(list, i) != NO; i++) tell(text, "get " + list, x.get(list, i));
        }
    }

    private static void undone(LacePins x, StringBuilder text) {
        for (int n = x.count(3); n > 0; n--) {
            tell(text, "undo", x.undo());
            tell(text, "hand", x.count(6));
            tell(text, "done", x.pins(2));
            threadsOf(x, text);
        }
    }

    // ---- small helps

    static long feedAll(LacePins x, String text) {
        long answer = 0;
        for (char c : text.toCharArray()) answer = x.feed(c);
        return answer;
    }

    static int told(LacePins x, String text) {
        feedAll(x, text);
        return x.pricking();
    }

    static String paperOf(LacePins x) {
        StringBuilder text = new StringBuilder();
        for (int i = 0; i < x.count(5); i++) text.append((char) x.paper(i));
        return text.toString();
    }

    static void threads(LacePins x, int... want) {
        for (int i = 0; i < want.length; i++) due("thread at " + i, x.thread(i / 2, i % 2), want[i]);
    }

    static String ordersOf(LacePins x, int orders, int pins) {
        StringBuilder text = new StringBuilder();
        for (int k = 0; k < orders; k++) {
            if (k > 0) text.append(' ');
            for (int i = 0; i < pins; i++) text.append((char) ('a' + x.order(k, i)));
        }
        return text.toString();
    }

    static String alongOf(LacePins x, int pins) {
        StringBuilder text = new StringBuilder();
        for (int i = 0; i < pins; i++) text.append((char) ('a' + x.along(i)));
        return text.toString();
    }
}
