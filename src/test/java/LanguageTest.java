import java.lang.management.ManagementFactory;
import java.lang.reflect.Array;
import java.lang.reflect.Constructor;
import java.lang.reflect.Field;
import java.lang.reflect.Method;
import java.lang.reflect.Modifier;
import java.nio.file.Files;
import java.nio.file.Path;
import java.util.ArrayList;
import java.util.Arrays;
import java.util.List;
import java.util.TreeSet;
import java.util.regex.Matcher;
import java.util.regex.Pattern;

/** What LANGUAGE.md rules out, as far as a program can see it, and the face of the class. */
public final class LanguageTest {
    private static final Path SOURCE = Path.of("src/main/java/LacePins.java");
    private static final String[] FACE = {
        "loom(int)int", "pin(int,int,int)int", "drop()int", "stitch(int,int)int", "of(int,int)int",
        "fill(int,boolean)int", "turn(int,int)int", "filled(int,int)int", "mirror()int", "even()int",
        "needs(int,int)long", "pins(int)long", "deepest()int", "work(int)int", "workAll()int", "undo()int",
        "thread(int,int)int", "where(int)int", "overs(int)int", "acts(int)int", "hand(int)int",
        "orders()long", "order(long,int)int", "travel()int", "along(int)int", "pairs(int)int",
        "hang(int,int)int", "draft(int)int", "paper(int)int", "lay(int,int)int", "seen(int,int,int)int",
        "feed(int)int", "clear()int", "pricking()int", "list(int,int)int", "set(int,int,long)int",
        "get(int,int)long", "count(int)int", "image()int", "restore()int"};
    private static final Check check = new Check();

    public static void main(String[] args) throws Exception {
        face();
        classesInside();
        words(Files.readString(SOURCE));
        shape(Files.readString(SOURCE));
        room();
        check.end();
    }

    private static String signature(Method m) {
        List<String> types = new ArrayList<>();
        for (Class<?> type : m.getParameterTypes()) types.add(type.getName());
        return m.getName() + "(" + String.join(",", types) + ")" + m.getReturnType().getName();
    }

    private static void face() {
        check.topic("rule 1");
        TreeSet<String> open = new TreeSet<>();
        for (Method m : LacePins.class.getDeclaredMethods()) {
            if (!Modifier.isPrivate(m.getModifiers())) open.add(signature(m));
        }
        check.holds("methods " + open, open.equals(new TreeSet<>(Arrays.asList(FACE))));
        TreeSet<String> constants = new TreeSet<>();
        for (Field f : LacePins.class.getDeclaredFields()) {
            if (!Modifier.isPrivate(f.getModifiers())) constants.add(f.getName());
        }
        check.holds("constants " + constants, constants.toString().equals("[BAD, FULL, NO, NONE, STATE]"));
        Constructor<?>[] made = LacePins.class.getDeclaredConstructors();
        check.holds("one constructor", made.length == 1 && Modifier.isPublic(made[0].getModifiers())
            && made[0].getParameterCount() == 0);
        check.holds("final", Modifier.isFinal(LacePins.class.getModifiers()));
    }

    private static void classesInside() {
        check.topic("rules 1, 2, 5, 11");
        TreeSet<String> publicNames = new TreeSet<>();
        for (Method m : LacePins.class.getMethods()) publicNames.add(m.getName());
        List<Class<?>> all = new ArrayList<>(Arrays.asList(LacePins.class.getDeclaredClasses()));
        check.holds("at most twelve classes", all.size() <= 11);
        for (Class<?> c : all) {
            check.holds(c + " is static", Modifier.isStatic(c.getModifiers()));
            for (Method m : c.getDeclaredMethods()) {
                check.holds(c + " " + m.getName() + " is no public name", !publicNames.contains(m.getName()));
            }
        }
        all.add(LacePins.class);
        for (Class<?> c : all) fieldsAndParameters(c);
    }

    private static void fieldsAndParameters(Class<?> c) {
        int own = 0;
        for (Field f : c.getDeclaredFields()) {
            if (!Modifier.isStatic(f.getModifiers())) own++;
            else check.holds(f + " is final", Modifier.isFinal(f.getModifiers()));
        }
        check.holds(c + " has twenty fields at most", own <= 20);
        for (Method m : c.getDeclaredMethods()) {
            check.holds(m + " takes seven at most", m.getParameterCount() <= 7);
        }
    }

    private static void words(String source) {
        check.topic("rules 4, 6, 13");
        String code = source.replaceAll("(?s)/\\*.*?\\*/", "").replaceAll("//[^\n]*", "");
        String[] ruledOut = {
            "throw", "throws", "try", "catch", "finally", "synchronized", "assert", "package", "protected",
            "Object", "Exception", "Thread", "Random", "hashCode", "getClass", "yield", "var", "native"};
        for (String word : ruledOut) {
            check.holds("no " + word, !Pattern.compile("\\b" + word + "\\b").matcher(code).find());
        }
        check.holds("no lambda", !code.contains("->"));
        check.holds("no method reference", !code.contains("::"));
        check.holds("no annotation", !code.contains("@"));
        check.holds("no Exact", !code.contains("Exact"));
        Matcher imports = Pattern.compile("import ([^;]*);").matcher(code);
        while (imports.find()) check.holds("import " + imports.group(1), imports.group(1).equals("java.util.Arrays"));
        Matcher library = Pattern.compile("\\b(Math|Integer|Long|System|Arrays)\\.(\\w+)").matcher(code);
        List<String> fine = List.of("Math.max", "Math.min", "Math.abs", "Integer.bitCount", "Long.bitCount",
            "System.arraycopy", "Arrays.fill", "Long.MIN_VALUE");
        while (library.find()) check.holds(library.group(), fine.contains(library.group()));
        for (char c : source.toCharArray()) if (c > 126 || c < 32 && c != '\n') check.holds("sign " + (int) c, false);
    }

    private static void shape(String source) {
        check.topic("rule 11");
        String[] lines = source.split("\n");
        int start = -1;
        String end = "";
        for (int i = 0; i < lines.length; i++) {
            Matcher head = Pattern.compile("^( +)[\\w\\[\\] ]+\\([^()]*\\) \\{$").matcher(lines[i]);
            if (start < 0 && head.find() && !lines[i].trim().matches("(if|for|while|switch|else)\\b.*")) {
                start = i;
                end = head.group(1) + "}";
            } else if (start >= 0 && lines[i].equals(end)) {
                check.holds("short: " + lines[start].trim(), i - start < 60);
                start = -1;
            }
        }
    }

    /** Behind the constructor no call makes anything, so that 512 of them keep within the room. */
    private static void room() throws IllegalAccessException {
        check.topic("rule 12");
        com.sun.management.ThreadMXBean bean =
            (com.sun.management.ThreadMXBean) ManagementFactory.getThreadMXBean();
        LacePins warm = new LacePins();
        callAll(warm);
        long before = bean.getThreadAllocatedBytes(Thread.currentThread().getId());
        new LacePins();
        long made = bean.getThreadAllocatedBytes(Thread.currentThread().getId()) - before;
        check.holds("a new object takes " + made + " bytes", made < 100_000);
        LacePins x = new LacePins();
        before = bean.getThreadAllocatedBytes(Thread.currentThread().getId());
        for (int i = 0; i < 10; i++) callAll(x);
        long then = bean.getThreadAllocatedBytes(Thread.currentThread().getId()) - before;
        check.holds("calls take " + then + " bytes", then < 4096);
        int elements = elementsOf(x);
        check.holds("an object has " + elements + " fields and elements", elements < 20_000);
    }

    /** Fields of an object and of those inside it, elements of their rows. */
    private static int elementsOf(Object object) throws IllegalAccessException {
        if (object.getClass().isArray()) return Array.getLength(object);
        int sum = 0;
        for (Field f : object.getClass().getDeclaredFields()) {
            if (Modifier.isStatic(f.getModifiers())) continue;
            sum++;
            f.setAccessible(true);
            if (!f.getType().isPrimitive()) sum += elementsOf(f.get(object));
        }
        return sum;
    }

    private static void callAll(LacePins x) {
        x.loom(12);
        for (int p = 0; p < 12; p++) x.pin(p / 6, p % 6 * 2, p % 5);
        for (int t = 0; t < 10; t++) x.turn(t % 3, 20 + t);
        x.fill(11, true);
        x.stitch(0, 1);
        x.mirror();
        x.even();
        x.needs(7, 1);
        x.pins(1);
        x.deepest();
        x.orders();
        x.order(77, 3);
        x.travel();
        x.along(11);
        x.pairs(0);
        x.hang(0, 1);
        x.image();
        x.workAll();
        x.undo();
        x.restore();
        x.draft(0);
        x.list(0, 30);
        x.lay(0, 1);
        x.seen(0, 0, 1);
        for (char c = 'a'; c < 'z'; c++) x.feed(c);
        x.pricking();
        for (int i = 0; i < 6; i++) x.feed(FILL[i]);
        x.pricking();
        x.work(0);
        x.acts(0);
        x.where(3);
        x.drop();
        x.clear();
    }

    private static final int[] FILL = {'f', 'i', 'l', 'l', ' ', '0'};
}
