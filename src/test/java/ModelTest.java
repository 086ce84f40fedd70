import java.util.Random;

/** Runs of calls by fixed seeds, each answer compared with the slow model's. */
public final class ModelTest {
    private static final int RUNS = 6000;
    // nothing is promised behind an object's 512th call
    private static final int CALLS = 512;
    private static final String[] WORDS = {
        "pin", "turn", "empty", "fill", "cross", "twist", "half", "cloth", "whole"};

    private final Check check = new Check();
    private final Random random;
    private final LacePins x = new LacePins();
    private final Model model = new Model();
    private final int rows;
    private final int style;
    private final StringBuilder told = new StringBuilder();
    private int calls = 0;

    private static long asked = 0;

    private ModelTest(int seed) {
        random = new Random(seed);
        check.topic("seed " + seed);
        rows = new int[] {3, 6, 12, 100}[random.nextInt(4)];
        style = random.nextInt(4);
    }

    public static void main(String[] args) {
        for (int seed = 0; seed < RUNS; seed++) {
            ModelTest run = new ModelTest(seed);
            for (int i = 0; run.calls < CALLS && run.check.isClean(); i++) run.step(i);
            if (!run.check.isClean()) {
                System.out.println(run.told);
                System.exit(1);
            }
        }
        System.out.println(asked + " answers are the model's");
    }

    private void due(String call, long got, long want) {
        calls++;
        if (calls > CALLS) return;
        asked++;
        told.append(call).append(" -> ").append(got).append('\n');
        check.due(call, got, want);
    }

    /** A number of 0 .. below - 1 nearly always, else one that is not. */
    private int some(int below) {
        switch (random.nextInt(40)) {
            case 0: return -1;
            case 1: return below;
            case 2: return random.nextBoolean() ? Integer.MIN_VALUE : Integer.MAX_VALUE;
            default: return below < 1 ? 0 : random.nextInt(below);
        }
    }

    private int slot() {
        return some(model.count(0));
    }

    private int pin() {
        return some(model.count(1));
    }

    private void step(int i) {
        if (i == 0 || random.nextInt(150) == 0) {
            int w = random.nextInt(8) == 0 ? some(14) : 2 + random.nextInt(11);
            due("loom " + w, x.loom(w), model.loom(w));
            return;
        }
        int kind = random.nextInt(100);
        if (kind < 30) tell();
        else if (kind < 45) toWork();
        else if (kind < 65) ask();
        else if (kind < 85) think();
        else if (kind < 90) tellText();
        else lists();
    }

    private void tell() {
        int kind = random.nextInt(20);
        int slot = slot(), row = random.nextInt(20) == 0 ? some(100) : random.nextInt(rows);
        if (kind < 8) {
            int s = some(5), at = some(model.count(0) - 1);
            due("pin " + row + " " + at + " " + s, x.pin(row, at, s), model.pin(row, at, s));
        } else if (kind < 12) {
            if (style == 0) return;
            due("turn " + slot + " " + row, x.turn(slot, row), model.turn(slot, row));
        } else if (kind == 12) {
            due("drop", x.drop(), model.drop());
        } else if (kind == 13) {
            int p = pin(), s = some(5);
            due("stitch " + p + " " + s, x.stitch(p, s), model.stitch(p, s));
        } else if (kind == 14) {
            boolean is = style < 2 || random.nextBoolean();
            due("fill " + slot + " " + is, x.fill(slot, is), model.fill(slot, is));
        } else if (kind == 15) {
            due("mirror", x.mirror(), model.mirror());
        } else if (kind == 16) {
            due("image", x.image(), model.image());
        } else if (kind == 17 && random.nextInt(3) == 0) {
            due("restore", x.restore(), model.restore());
        } else {
            even();
        }
    }

    /** Now and then the other half comes, so that it is EVEN more often. */
    private void even() {
        due("even", x.even(), model.even());
        if (random.nextInt(3) != 0) return;
        int w = model.count(0);
        for (int p = model.count(1) - 1; p >= 0; p--) {
            int row = model.of(p, 0), at = w - 2 - model.of(p, 1), s = model.of(p, 2);
            due("pin " + row + " " + at + " " + s, x.pin(row, at, s), model.pin(row, at, s));
        }
        due("even", x.even(), model.even());
    }

    private void toWork() {
        int kind = random.nextInt(14);
        if (kind < 6) {
            int p = pin();
            due("work " + p, x.work(p), model.work(p));
        } else if (kind < 7) {
            due("workAll", x.workAll(), model.workAll());
        } else if (kind < 11) {
            due("undo", x.undo(), model.undo());
        } else if (kind < 12) {
            for (int n = 0; n < 31 && model.count(3) > 0; n++) due("undo", x.undo(), model.undo());
        } else {
            int s = slot();
            due("hand " + s, x.hand(s), model.hand(s));
        }
    }

    private void ask() {
        int kind = random.nextInt(12);
        int p = pin(), s = slot(), what = some(6), t = some(2 * model.count(0));
        switch (kind) {
            case 0: case 1: due("of " + p + " " + what, x.of(p, what), model.of(p, what)); break;
            case 2: what = some(3); due("needs " + p + " " + what, x.needs(p, what), model.needs(p, what)); break;
            case 3: what = some(3); due("pins " + what, x.pins(what), model.pins(what)); break;
            case 4: due("deepest", x.deepest(), model.deepest()); break;
            case 5: what = some(2); due("thread " + s + " " + what, x.thread(s, what), model.thread(s, what)); break;
            case 6: due("where " + t, x.where(t), model.where(t)); break;
            case 7: due("overs " + t, x.overs(t), model.overs(t)); break;
            case 8: what = some(2); due("acts " + what, x.acts(what), model.acts(what)); break;
            case 9: what = some(9); due("count " + what, x.count(what), model.count(what)); break;
            case 10: what = some(100); due("filled " + s + " " + what, x.filled(s, what), model.filled(s, what)); break;
            default: draft();
        }
    }

    private void draft() {
        int row = random.nextInt(20) == 0 ? some(100) : random.nextInt(rows);
        due("draft " + row, x.draft(row), model.draft(row));
        for (int i = -1; i <= 12; i++) due("paper " + i, x.paper(i), model.paper(i));
    }

    private void think() {
        int kind = random.nextInt(10);
        if (kind < 3) {
            int i = some(model.count(7)), what = some(2);
            due("hang " + i + " " + what, x.hang(i, what), model.hang(i, what));
            return;
        }
        if (kind < 5) {
            int what = some(3);
            due("pairs " + what, x.pairs(what), model.pairs(what));
            return;
        }
        long orders = model.orders();
        due("orders", x.orders(), orders);
        if (orders > Model.MOST_WRITTEN) return;
        int left = model.count(1) - model.count(3);
        int i = some(left);
        if (kind < 7) {
            long k = random.nextInt(10) == 0 ? random.nextLong() : some((int) Math.max(orders, 0));
            due("order " + k + " " + i, x.order(k, i), model.order(k, i));
        } else if (kind < 8) {
            due("travel", x.travel(), model.travel());
        } else {
            due("along " + i, x.along(i), model.along(i));
        }
    }

    private void tellText() {
        String text = text();
        for (int i = 0; i < text.length(); i++) {
            char c = text.charAt(i);
            due("feed " + (int) c, x.feed(c), model.feed(c));
        }
        if (random.nextInt(10) == 0) due("clear", x.clear(), model.clear());
        due("pricking of " + text, x.pricking(), model.pricking());
        due("tape", x.count(4), model.count(4));
    }

    private String text() {
        StringBuilder text = new StringBuilder();
        int parts = random.nextInt(8) == 0 ? 20 : 1 + random.nextInt(4);
        for (int i = 0; i < parts; i++) {
            if (i > 0) text.append(';');
            String s = "" + random.nextInt(random.nextInt(8) == 0 ? 100 : model.count(0));
            String r = "" + random.nextInt(rows);
            int kind = random.nextInt(4);
            text.append(WORDS[kind]);
            if (kind == 0) text.append(' ').append(r).append(' ').append(s).append(' ').append(WORDS[4 + random.nextInt(5)]);
            else if (kind == 1) text.append(' ').append(s).append(' ').append(r);
            else text.append(' ').append(s);
        }
        for (int n = random.nextInt(3); n > 0 && text.length() > 0; n--) spoil(text);
        return text.toString();
    }

    private void spoil(StringBuilder text) {
        int at = random.nextInt(text.length());
        String signs = " ;0123456789abcdefghijklmnopqrstuvwxyz:P`{/~";
        char sign = signs.charAt(random.nextInt(signs.length()));
        switch (random.nextInt(5)) {
            case 0: text.setLength(at); break;
            case 1: text.setCharAt(at, sign); break;
            case 2: text.insert(at, sign); break;
            case 3: text.deleteCharAt(at); break;
            default: text.insert(at, text.charAt(at)); break;
        }
    }

    private void lists() {
        int l = random.nextInt(20) == 0 ? some(4) : random.nextInt(2), i = some(30);
        switch (random.nextInt(8)) {
            case 0: int n = 10 + some(21); due("list " + l + " " + n, x.list(l, n), model.list(l, n)); break;
            case 1: long v = random.nextInt(24); due("set " + l + " " + i, x.set(l, i, v), model.set(l, i, v)); break;
            case 2: due("get " + l + " " + i, x.get(l, i), model.get(l, i)); break;
            case 3: case 4: i = some(5); due("lay " + l + " " + i, x.lay(l, i), model.lay(l, i)); break;
            case 5: int s = some(5), p = pin(); due("seen", x.seen(p, l, s), model.seen(p, l, s)); break;
            default: see(l);
        }
    }

    private void see(int l) {
        for (int p = 0; p < model.count(1); p++) {
            if ((model.pins(1) >> p & 1) == 0) continue;
            due("list", x.list(l, 26), model.list(l, 26));
            due("work " + p, x.work(p), model.work(p));
            due("lay", x.lay(l, 2), model.lay(l, 2));
            due("undo", x.undo(), model.undo());
            due("seen " + p, x.seen(p, l, 2), model.seen(p, l, 2));
            return;
        }
    }
}
