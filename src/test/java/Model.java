import java.util.ArrayList;
import java.util.Arrays;
import java.util.HashMap;
import java.util.List;
import java.util.Map;
import java.util.TreeSet;

/** The document's words taken literally, slow and with the whole Java library; only for tests. */
final class Model {
    private static final int NONE = -1, BAD = -2, STATE = -3, FULL = -4;
    private static final int NOT_ANY = -5, NOTHING = -11, BEYOND = -13, BELOW = -14;
    private static final long NO = Long.MIN_VALUE;
    private static final String[] ACTS = {"C", "T", "CT", "CTC", "CTCT"};
    private static final String[] NAMES = {"cross", "twist", "half", "cloth", "whole"};
    /** More LAWFUL ORDERS than that are not written out; the test asks for none of them then. */
    static final int MOST_WRITTEN = 3000;

    /** All of section 1 of the document's terms. */
    private static final class All {
        int w = 6;
        List<int[]> pins = new ArrayList<>();
        TreeSet<Integer> turns = new TreeSet<>();
        boolean[] first = new boolean[12];
        List<Integer> threads = new ArrayList<>();
        int[] overs = new int[24];
        List<Integer> done = new ArrayList<>();
        List<All> ahead = new ArrayList<>();
        int hand = 0;

        All(int w) {
            this.w = w;
            Arrays.fill(first, true);
            for (int t = 0; t < 2 * w; t++) threads.add(t);
        }

        All copy() {
            All c = new All(w);
            for (int[] p : pins) c.pins.add(p.clone());
            c.turns = new TreeSet<>(turns);
            c.first = first.clone();
            c.threads = new ArrayList<>(threads);
            c.overs = overs.clone();
            c.done = new ArrayList<>(done);
            c.ahead = new ArrayList<>(ahead);
            c.hand = hand;
            return c;
        }
    }

    private All a = new All(6);
    private All image = null;
    private String tape = "";
    private String paper = "";
    private final long[][] lists = new long[4][];

    // ---- the pricking

    int loom(int w) {
        if (w < 2 || w > 12) return BAD;
        int was = a.w;
        a = new All(w);
        return was;
    }

    int pin(int row, int slot, int stitch) {
        if (row < 0 || row > 99 || slot < 0 || slot > a.w - 2 || stitch < 0 || stitch > 4) return BAD;
        if (!a.done.isEmpty()) return STATE;
        for (int[] p : a.pins) if (p[0] == row && shares(p, slot, slot + 1)) return STATE;
        if (a.pins.size() == 30) return FULL;
        a.pins.add(new int[] {row, slot, stitch});
        return a.pins.size() - 1;
    }

    private static boolean shares(int[] pin, int... slots) {
        for (int s : slots) if (pin[1] == s || pin[1] + 1 == s) return true;
        return false;
    }

    int drop() {
        if (!a.done.isEmpty() || a.pins.isEmpty()) return STATE;
        a.pins.remove(a.pins.size() - 1);
        return a.pins.size();
    }

    private boolean isPin(int p) {
        return 0 <= p && p < a.pins.size();
    }

    private boolean isSlot(int s) {
        return 0 <= s && s < a.w;
    }

    int stitch(int pin, int stitch) {
        if (!isPin(pin)) return NONE;
        if (stitch < 0 || stitch > 4) return BAD;
        if (!a.done.isEmpty()) return STATE;
        int was = a.pins.get(pin)[2];
        a.pins.get(pin)[2] = stitch;
        return was;
    }

    int of(int pin, int what) {
        if (!isPin(pin) || what < 0 || what > 5) return NONE;
        if (what < 3) return a.pins.get(pin)[what];
        if (what == 3) return a.done.contains(pin) ? 1 : 0;
        return what == 4 ? depth(pin) : lacks(pin) ? 1 : 0;
    }

    int fill(int slot, boolean is) {
        if (!isSlot(slot)) return NONE;
        if (!a.done.isEmpty()) return STATE;
        int was = a.first[slot] ? 1 : 0;
        a.first[slot] = is;
        return was;
    }

    int turn(int slot, int row) {
        if (!isSlot(slot)) return NONE;
        if (row < 0 || row > 99) return BAD;
        if (!a.done.isEmpty()) return STATE;
        int turn = 100 * row + slot;
        if (a.turns.remove(turn)) return a.turns.size();
        if (a.turns.size() == 10) return FULL;
        a.turns.add(turn);
        return a.turns.size();
    }

    private boolean isFilled(int slot, int row) {
        boolean is = a.first[slot];
        for (int r = 0; r <= row; r++) if (a.turns.contains(100 * r + slot)) is = !is;
        return is;
    }

    int filled(int slot, int row) {
        if (!isSlot(slot)) return NONE;
        if (row < 0 || row > 99) return BAD;
        return isFilled(slot, row) ? 1 : 0;
    }

    private All mirrored() {
        All m = a.copy();
        for (int[] p : m.pins) p[1] = a.w - 2 - p[1];
        m.turns = new TreeSet<>();
        for (int t : a.turns) m.turns.add(t / 100 * 100 + a.w - 1 - t % 100);
        for (int s = 0; s < a.w; s++) m.first[s] = a.first[a.w - 1 - s];
        return m;
    }

    int mirror() {
        if (!a.done.isEmpty()) return STATE;
        a = mirrored();
        return a.pins.size();
    }

    int even() {
        All m = mirrored();
        TreeSet<String> one = new TreeSet<>();
        TreeSet<String> other = new TreeSet<>();
        for (int[] p : a.pins) one.add(Arrays.toString(p));
        for (int[] p : m.pins) other.add(Arrays.toString(p));
        return one.equals(other) && a.turns.equals(m.turns) && Arrays.equals(a.first, m.first) ? 1 : 0;
    }

    // ---- what needs what

    private TreeSet<Integer> direct(int pin) {
        TreeSet<Integer> found = new TreeSet<>();
        int[] p = a.pins.get(pin);
        for (int slot = p[1]; slot <= p[1] + 1; slot++) {
            int best = -1;
            for (int q = 0; q < a.pins.size(); q++) {
                int[] other = a.pins.get(q);
                if (other[0] >= p[0] || !shares(other, slot)) continue;
                if (best < 0 || other[0] > a.pins.get(best)[0]) best = q;
            }
            if (best >= 0) found.add(best);
        }
        return found;
    }

    private TreeSet<Integer> all(int pin) {
        TreeSet<Integer> found = new TreeSet<>();
        for (int q : direct(pin)) {
            found.add(q);
            found.addAll(all(q, new HashMap<>()));
        }
        return found;
    }

    private TreeSet<Integer> all(int pin, Map<Integer, TreeSet<Integer>> known) {
        if (known.containsKey(pin)) return known.get(pin);
        TreeSet<Integer> found = new TreeSet<>();
        for (int q : direct(pin)) {
            found.add(q);
            found.addAll(all(q, known));
        }
        known.put(pin, found);
        return found;
    }

    private int depth(int pin) {
        return depth(pin, new HashMap<>());
    }

    private int depth(int pin, Map<Integer, Integer> known) {
        if (known.containsKey(pin)) return known.get(pin);
        int d = 0;
        for (int q : direct(pin)) d = Math.max(d, 1 + depth(q, known));
        known.put(pin, d);
        return d;
    }

    private boolean lacks(int pin) {
        int[] p = a.pins.get(pin);
        return !isFilled(p[1], p[0]) || !isFilled(p[1] + 1, p[0]);
    }

    private boolean ready(int pin) {
        return !a.done.contains(pin) && !lacks(pin) && a.done.containsAll(all(pin));
    }

    private static long bits(Iterable<Integer> pins) {
        long b = 0;
        for (int p : pins) b |= 1L << p;
        return b;
    }

    long needs(int pin, int what) {
        if (!isPin(pin) || what < 0 || what > 2) return NO;
        if (what == 0) return bits(direct(pin));
        if (what == 1) return bits(all(pin));
        TreeSet<Integer> by = new TreeSet<>();
        for (int q = 0; q < a.pins.size(); q++) if (all(q).contains(pin)) by.add(q);
        return bits(by);
    }

    long pins(int what) {
        if (what < 0 || what > 2) return NO;
        TreeSet<Integer> found = new TreeSet<>();
        for (int p = 0; p < a.pins.size(); p++) {
            if (what == 0 ? lacks(p) : what == 1 ? ready(p) : a.done.contains(p)) found.add(p);
        }
        return bits(found);
    }

    int deepest() {
        int d = NOT_ANY;
        for (int p = 0; p < a.pins.size(); p++) d = Math.max(d, depth(p));
        return d;
    }

    // ---- work

    private void act(All on, int slot, char act) {
        List<Integer> four = on.threads.subList(2 * slot, 2 * slot + 4);
        int ta = four.get(0), tb = four.get(1), tc = four.get(2), td = four.get(3);
        on.overs[tb]++;
        if (act == 'T') on.overs[td]++;
        List<Integer> then = act == 'C' ? List.of(ta, tc, tb, td) : List.of(tb, ta, td, tc);
        for (int i = 0; i < 4; i++) four.set(i, then.get(i));
    }

    private void workOne(int pin) {
        All ahead = a.copy();
        int[] p = a.pins.get(pin);
        for (char c : ACTS[p[2]].toCharArray()) act(a, p[1], c);
        a.hand = p[1];
        a.done.add(pin);
        a.ahead.add(ahead);
    }

    int work(int pin) {
        if (!isPin(pin)) return NONE;
        if (!ready(pin)) return STATE;
        workOne(pin);
        return a.done.size();
    }

    int workAll() {
        int many = 0;
        while (true) {
            int best = -1;
            for (int p = 0; p < a.pins.size(); p++) {
                if (ready(p) && (best < 0 || key(p) < key(best))) best = p;
            }
            if (best < 0) return many;
            workOne(best);
            many++;
        }
    }

    private int key(int pin) {
        return 100 * a.pins.get(pin)[0] + a.pins.get(pin)[1];
    }

    int undo() {
        if (a.done.isEmpty()) return STATE;
        a = a.ahead.get(a.ahead.size() - 1).copy();
        return a.done.size();
    }

    int thread(int slot, int side) {
        return !isSlot(slot) || side < 0 || side > 1 ? NONE : a.threads.get(2 * slot + side);
    }

    int where(int thread) {
        return a.threads.indexOf(thread);
    }

    int overs(int thread) {
        return thread < 0 || thread >= 2 * a.w ? NONE : a.overs[thread];
    }

    int acts(int what) {
        if (what < 0 || what > 1) return NONE;
        int many = 0;
        for (int p : a.done) {
            for (char c : ACTS[a.pins.get(p)[2]].toCharArray()) if (c == "CT".charAt(what)) many++;
        }
        return many;
    }

    int hand(int slot) {
        if (!isSlot(slot)) return NONE;
        int was = a.hand;
        a.hand = slot;
        return was;
    }

    // ---- in thought

    private List<Integer> left() {
        List<Integer> left = new ArrayList<>();
        for (int p = 0; p < a.pins.size(); p++) if (!a.done.contains(p)) left.add(p);
        return left;
    }

    private boolean tooMany() {
        return left().size() > 12;
    }

    private Map<Integer, Long> needOf() {
        Map<Integer, Long> need = new HashMap<>();
        for (int p : left()) need.put(p, bits(all(p)));
        return need;
    }

    private boolean anyLacks() {
        for (int p : left()) if (lacks(p)) return true;
        return false;
    }

    private long ways(long worked, List<Integer> left, Map<Integer, Long> need, Map<Long, Long> known) {
        if (known.containsKey(worked)) return known.get(worked);
        long sum = 0;
        boolean any = false;
        for (int p : left) {
            if ((worked >> p & 1) == 1) continue;
            any = true;
            if ((need.get(p) & ~worked) == 0) sum += ways(worked | 1L << p, left, need, known);
        }
        if (!any) sum = 1;
        known.put(worked, sum);
        return sum;
    }

    long orders() {
        if (tooMany()) return STATE;
        if (anyLacks()) return 0;
        return ways(bits(a.done), left(), needOf(), new HashMap<>());
    }

    private void write(List<Integer> sofar, long worked, List<Integer> left, Map<Integer, Long> need,
            List<List<Integer>> into) {
        if (sofar.size() == left.size()) {
            into.add(new ArrayList<>(sofar));
            return;
        }
        for (int p : left) {
            if ((worked >> p & 1) == 1 || (need.get(p) & ~worked) != 0) continue;
            sofar.add(p);
            write(sofar, worked | 1L << p, left, need, into);
            sofar.remove(sofar.size() - 1);
        }
    }

    private List<List<Integer>> written() {
        List<List<Integer>> into = new ArrayList<>();
        if (!anyLacks()) write(new ArrayList<>(), bits(a.done), left(), needOf(), into);
        return into;
    }

    int order(long k, int i) {
        if (tooMany()) return STATE;
        List<List<Integer>> orders = written();
        if (k < 0 || k >= orders.size() || i < 0 || i >= left().size()) return NONE;
        return orders.get((int) k).get(i);
    }

    private int travelOf(List<Integer> order) {
        int at = a.hand;
        int sum = 0;
        for (int p : order) {
            sum += Math.abs(at - a.pins.get(p)[1]);
            at = a.pins.get(p)[1];
        }
        return sum;
    }

    private List<Integer> leastOrder() {
        List<Integer> best = null;
        for (List<Integer> order : written()) {
            if (best == null || travelOf(order) < travelOf(best)) best = order;
        }
        return best;
    }

    int travel() {
        if (tooMany()) return STATE;
        List<Integer> best = leastOrder();
        return best == null ? NOT_ANY : travelOf(best);
    }

    int along(int i) {
        if (tooMany()) return STATE;
        List<Integer> best = leastOrder();
        if (best == null) return STATE;
        return i < 0 || i >= best.size() ? NONE : best.get(i);
    }

    private List<Integer> turnsInto(boolean full) {
        List<Integer> found = new ArrayList<>();
        for (int t : a.turns) if (isFilled(t % 100, t / 100) == full) found.add(t);
        return found;
    }

    /** All ways to join: for each HANG the place of its OUT, or as many as there are OUTS for none. */
    private void joinings(int[] sofar, int hang, List<Integer> hangs, List<Integer> outs, List<int[]> into) {
        if (hang == hangs.size()) {
            into.add(sofar.clone());
            return;
        }
        for (int out = 0; out <= outs.size(); out++) {
            boolean may = out == outs.size() || outs.get(out) / 100 < hangs.get(hang) / 100;
            for (int h = 0; h < hang; h++) if (out < outs.size() && sofar[h] == out) may = false;
            if (!may) continue;
            sofar[hang] = out;
            joinings(sofar, hang + 1, hangs, outs, into);
        }
    }

    private static int joinedIn(int[] joining, List<Integer> outs) {
        int many = 0;
        for (int out : joining) if (out < outs.size()) many++;
        return many;
    }

    private static int apartIn(int[] joining, List<Integer> hangs, List<Integer> outs) {
        int sum = 0;
        for (int h = 0; h < joining.length; h++) {
            if (joining[h] < outs.size()) sum += Math.abs(hangs.get(h) % 100 - outs.get(joining[h]) % 100);
        }
        return sum;
    }

    private int[] bestJoining() {
        List<Integer> hangs = turnsInto(true);
        List<Integer> outs = turnsInto(false);
        List<int[]> ways = new ArrayList<>();
        joinings(new int[hangs.size()], 0, hangs, outs, ways);
        ways.sort((x, y) -> {
            int by = joinedIn(y, outs) - joinedIn(x, outs);
            if (by == 0) by = apartIn(x, hangs, outs) - apartIn(y, hangs, outs);
            return by != 0 ? by : Arrays.compare(x, y);
        });
        return ways.get(0);
    }

    int pairs(int what) {
        if (what < 0 || what > 2) return NONE;
        int[] best = bestJoining();
        int joined = joinedIn(best, turnsInto(false));
        if (what == 1) return joined;
        if (what == 2) return apartIn(best, turnsInto(true), turnsInto(false));
        int first = 0;
        for (int s = 0; s < a.w; s++) if (a.first[s]) first++;
        return first + best.length - joined;
    }

    int hang(int i, int what) {
        List<Integer> hangs = turnsInto(true);
        List<Integer> outs = turnsInto(false);
        if (i < 0 || i >= hangs.size() || what < 0 || what > 1) return NONE;
        int turn = hangs.get(i);
        if (what == 1) {
            int out = bestJoining()[i];
            if (out == outs.size()) return NOT_ANY;
            turn = outs.get(out);
        }
        return turn % 100 * 100 + turn / 100;
    }

    // ---- drafts, seen

    int draft(int row) {
        if (row < 0 || row > 99) return BAD;
        StringBuilder text = new StringBuilder();
        for (int s = 0; s < a.w; s++) {
            char sign = '|';
            for (int[] p : a.pins) if (p[0] == row && shares(p, s)) sign = p[1] == s ? '(' : ')';
            text.append(isFilled(s, row) ? sign : '.');
        }
        paper = text.toString();
        return a.w;
    }

    int paper(int i) {
        return i < 0 || i >= paper.length() ? NONE : paper.charAt(i);
    }

    int lay(int list, int i) {
        if (list < 0 || list > 3) return NONE;
        if (lists[list] == null) return NOTHING;
        if (i < 0) return BEYOND;
        int laid = 0;
        for (int t = 0; t < 2 * a.w; t++) {
            if ((long) i + t < lists[list].length) {
                lists[list][i + t] = a.threads.get(t);
                laid++;
            }
        }
        return laid < 2 * a.w ? BEYOND : laid;
    }

    int seen(int pin, int list, int i) {
        if (!isPin(pin) || list < 0 || list > 3) return NONE;
        if (lists[list] == null) return NOTHING;
        if (i < 0 || (long) i + 2 * a.w > lists[list].length) return BEYOND;
        if (!ready(pin)) return STATE;
        int bits = 0;
        for (int s = 0; s < 5; s++) {
            All then = a.copy();
            for (char c : ACTS[s].toCharArray()) act(then, then.pins.get(pin)[1], c);
            boolean same = true;
            for (int t = 0; t < 2 * a.w; t++) same &= lists[list][i + t] == then.threads.get(t);
            if (same) bits |= 1 << s;
        }
        return bits;
    }

    // ---- texts

    int feed(int letter) {
        if (letter < 1 || letter > 127) return BAD;
        if (tape.length() == 120) return FULL;
        tape += (char) letter;
        return tape.length();
    }

    int clear() {
        int had = tape.length();
        tape = "";
        return had;
    }

    /** The FAULT of a text, or -1: by texts of which it is the beginning. */
    private static int fault(String text) {
        int from = 0;
        while (true) {
            String rest = text.substring(from);
            String word = rest.replaceAll("(?s)[^a-z].*", "");
            String shape;
            switch (word) {
                case "pin": shape = "pin N N "; break;
                case "turn": shape = "turn N N"; break;
                case "empty": shape = "empty N"; break;
                case "fill": shape = "fill N"; break;
                default: return from;
            }
            int at = from;
            for (char c : shape.toCharArray()) {
                if (at == text.length()) return at;
                if (c == 'N') {
                    if (!Character.isDigit(text.charAt(at))) return at;
                    at++;
                    if (at < text.length() && Character.isDigit(text.charAt(at))) at++;
                } else {
                    if (text.charAt(at) != c) return at;
                    at++;
                }
            }
            if (word.equals("pin")) {
                String name = text.substring(at).replaceAll("(?s)[^a-z].*", "");
                if (!Arrays.asList(NAMES).contains(name)) return at;
                at += name.length();
            }
            if (at == text.length()) return -1;
            if (text.charAt(at) != ';') return at;
            from = at + 1;
        }
    }

    int pricking() {
        String text = tape;
        tape = "";
        int fault = fault(text);
        if (fault >= 0) return -100 - fault;
        All was = a.copy();
        String[] parts = text.split(";");
        for (int i = 0; i < parts.length; i++) {
            String[] words = parts[i].split(" ");
            int[] n = new int[3];
            for (int j = 1; j < Math.min(words.length, 3); j++) n[j] = Integer.parseInt(words[j]);
            int answer;
            if (words[0].equals("pin")) answer = pin(n[1], n[2], Arrays.asList(NAMES).indexOf(words[3]));
            else if (words[0].equals("turn")) answer = turn(n[1], n[2]);
            else answer = fill(n[1], words[0].equals("fill"));
            if (answer < 0) {
                a = was;
                return -300 - i;
            }
        }
        return parts.length;
    }

    // ---- rows, the image

    int list(int list, int n) {
        if (list < 0 || list > 3) return NONE;
        if (n > 30) return BAD;
        if (n < 0) return BELOW;
        lists[list] = new long[n];
        return 1;
    }

    int set(int list, int i, long v) {
        if (list < 0 || list > 3) return NONE;
        if (lists[list] == null) return NOTHING;
        if (i < 0 || i >= lists[list].length) return BEYOND;
        lists[list][i] = v;
        return 1;
    }

    long get(int list, int i) {
        if (list < 0 || list > 3 || lists[list] == null) return NO;
        return i < 0 || i >= lists[list].length ? NO : lists[list][i];
    }

    int count(int what) {
        switch (what) {
            case 0: return a.w;
            case 1: return a.pins.size();
            case 2: return a.turns.size();
            case 3: return a.done.size();
            case 4: return tape.length();
            case 5: return paper.length();
            case 6: return a.hand;
            case 7: return turnsInto(true).size();
            case 8: return turnsInto(false).size();
            default: return NONE;
        }
    }

    int image() {
        image = a.copy();
        return a.pins.size();
    }

    int restore() {
        if (image == null) return STATE;
        a = image.copy();
        return a.pins.size();
    }
}
