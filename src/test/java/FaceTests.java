import java.io.IOException;
import java.lang.reflect.Constructor;
import java.lang.reflect.Field;
import java.lang.reflect.Method;
import java.lang.reflect.Modifier;
import java.nio.file.Files;
import java.nio.file.Path;
import java.util.Arrays;
import java.util.Set;
import java.util.TreeSet;
import java.util.regex.Matcher;
import java.util.regex.Pattern;

/** The face is the document's, the file keeps to LANGUAGE.md where that can be seen from outside, and calls make no objects. */
public final class FaceTests {
    private static final String[] FACE = {
        "int type(int)", "int clear()", "int tunnel()", "int walker(int,int)", "int stretch(int,int)",
        "int takes(int,int)", "int walks(int)", "int backs()", "int rests(int)", "int undo()", "int now(int)",
        "int best(int)", "int fresh(int)", "int hired(int,int,int)", "int goIn(int)", "int meets(int,int,int,int)",
        "int odds(int,int,int,int)", "int saw(int,int)", "int forget()", "int fits(int)", "int surely(int)",
        "int mark(int,int)", "int keep(int)", "int back(int)", "int count(int)", "long trace()"};
    private static int wrong = 0;

    private static void check(boolean holds, String what) {
        if (!holds) {
            wrong++;
            System.out.println("not so: " + what);
        }
    }

    public static void main(String[] args) throws Exception {
        face();
        classesInside();
        source();
        room();
        neverThrows();
        System.out.println(wrong == 0 ? "the face is as told" : wrong + " faults");
        if (wrong != 0) {
            System.exit(1);
        }
    }

    private static String told(Method m) {
        StringBuilder s = new StringBuilder(m.getReturnType() + " " + m.getName() + "(");
        for (Class<?> p : m.getParameterTypes()) {
            s.append(s.charAt(s.length() - 1) == '(' ? "" : ",").append(p);
        }
        return s.append(")").toString();
    }

    private static void face() {
        Class<?> c = BoatLeggers.class;
        check(Modifier.isPublic(c.getModifiers()) && Modifier.isFinal(c.getModifiers()), "public and final");
        Set<String> visible = new TreeSet<>();
        for (Method m : c.getDeclaredMethods()) {
            if (!Modifier.isPrivate(m.getModifiers())) {
                check(Modifier.isPublic(m.getModifiers()) && !Modifier.isStatic(m.getModifiers()), "public: " + m);
                visible.add(told(m));
            }
        }
        check(visible.equals(new TreeSet<>(Arrays.asList(FACE))), "methods " + visible);
        Set<String> constants = new TreeSet<>();
        for (Field f : c.getDeclaredFields()) {
            boolean hidden = Modifier.isPrivate(f.getModifiers());
            if (!hidden) {
                check(f.getType() == int.class && Modifier.isStatic(f.getModifiers()) && Modifier.isFinal(f.getModifiers()), "" + f);
                constants.add(f.getName());
            }
        }
        check(constants.equals(Set.of("BAD", "STATE", "FULL", "NONE", "NO")), "constants " + constants);
        Constructor<?>[] made = c.getDeclaredConstructors();
        check(made.length == 1 && made[0].getParameterCount() == 0 && Modifier.isPublic(made[0].getModifiers()), "constructor");
    }

    private static void classesInside() {
        Class<?>[] inside = BoatLeggers.class.getDeclaredClasses();
        check(inside.length <= 11, "classes " + inside.length);
        Set<String> names = new TreeSet<>();
        for (String s : FACE) {
            names.add(s.substring(s.indexOf(' ') + 1, s.indexOf('(')));
        }
        for (Class<?> c : inside) {
            check(Modifier.isStatic(c.getModifiers()), "static " + c);
            for (Method m : c.getDeclaredMethods()) {
                check(!names.contains(m.getName()), "a name of the face: " + m);
                check(m.getParameterCount() <= 7, "parameters " + m);
            }
            for (Field f : c.getDeclaredFields()) {
                check(!Modifier.isStatic(f.getModifiers()) || Modifier.isFinal(f.getModifiers()), "static state " + f);
            }
            long fields = Arrays.stream(c.getDeclaredFields()).filter(f -> !Modifier.isStatic(f.getModifiers())).count();
            check(fields <= 20, "fields of " + c);
        }
    }

    private static void source() throws IOException {
        String text = Files.readString(Path.of("src/main/java/BoatLeggers.java"));
        String code = text.replaceAll("(?s)/\\*.*?\\*/", "").replaceAll("//[^\n]*", "");
        String[] ruledOut = {"\\bthrow\\b", "\\btry\\b", "\\bcatch\\b", "\\bsynchronized\\b", "\\bassert\\b", "->", "::",
            "\\bimport\\b", "\\bpackage\\b", "\\bSystem\\b", "\\bprotected\\b", "Exact\\b", "\\bprintln\\b", "\\bnull\\b"};
        for (String word : ruledOut) {
            check(!Pattern.compile(word).matcher(code).find(), "none of " + word);
        }
        for (char c : text.toCharArray()) {
            check(c < 128, "sign " + (int) c);
        }
        Matcher method = Pattern.compile("(?m)^ {4}( {4})?[a-z][^=;\n]*\\) \\{\n(?s:.*?)\n {4}\\1?\\}").matcher(text);
        int methods = 0;
        while (method.find()) {
            methods++;
            check(method.group().lines().count() <= 60, "short: " + method.group().lines().findFirst());
        }
        check(methods > 60, "methods are found");
    }

    /** One room for all calls of a run: what a call makes is counted, so it makes nothing. */
    private static void room() {
        com.sun.management.ThreadMXBean bean =
            (com.sun.management.ThreadMXBean) java.lang.management.ManagementFactory.getThreadMXBean();
        if (!bean.isThreadAllocatedMemorySupported()) {
            return;
        }
        String text = "w9 1;w9 1;w9 1;w9 1;t9 2 1 1;t9 18 1 1;t9 2 1 1;t9 18 1 1;t9 13 1 1;t9 14 1 1;c 9;h 10;";
        busy(new BoatLeggers(), text);
        BoatLeggers x = new BoatLeggers();
        long id = Thread.currentThread().getId();
        long before = bean.getThreadAllocatedBytes(id);
        busy(x, text);
        long made = bean.getThreadAllocatedBytes(id) - before;
        check(made < 20000, "bytes made by 500 calls: " + made);
    }

    /** Every method with every row of odd numbers, on a new object, on a full one and on one without anybody. */
    private static void neverThrows() throws IllegalAccessException {
        String full = "w9 1;w9 1;w9 1;w9 1;t9 2 1 1;t9 18 1 1;t9 2 1 1;t9 18 1 1;t9 13 1 1;t9 14 1 1;c 9;h 10;";
        String[] texts = {"", full, "w1 1;w1 1;", "t1 2 0 1;", "w1 1;w1 1;t1 2 0 1;", "$"};
        int[] odd = {Integer.MIN_VALUE, Integer.MIN_VALUE + 9, -1000000, -12, -2, -1, 0, 1, 2, 3, 5, 6, 7, 9, 10, 12, 23, 34, 99, 101,
            200, 255, 256, 9999, 10000, Integer.MAX_VALUE - 9, Integer.MAX_VALUE};
        for (String text : texts) {
            for (Method m : BoatLeggers.class.getDeclaredMethods()) {
                if (Modifier.isPublic(m.getModifiers())) {
                    callWithAll(m, text, odd);
                }
            }
        }
    }

    private static void callWithAll(Method m, String text, int[] odd) throws IllegalAccessException {
        BoatLeggers x = new BoatLeggers();
        busy(x, text);
        int many = m.getParameterCount();
        int rows = (int) Math.pow(odd.length, many);
        Object[] row = new Object[many];
        // a stride that shares no divisor with the 27 numbers still goes through all kinds of rows
        for (int r = 0; r < rows; r += many > 2 ? 7 : 1) {
            for (int i = 0, rest = r; i < many; i++, rest /= odd.length) {
                row[i] = odd[rest % odd.length];
            }
            try {
                m.invoke(x, row);
            } catch (java.lang.reflect.InvocationTargetException e) {
                check(false, m + " with " + Arrays.toString(row) + " behind '" + text + "': " + e.getCause());
                return;
            }
        }
    }

    private static void busy(BoatLeggers x, String text) {
        for (int i = 0; i < text.length(); i++) {
            x.type(text.charAt(i));
        }
        x.tunnel();
        for (int i = 0; i < 20; i++) {
            x.walks(i % 2 == 0 ? 1 : 23);
            x.best(-1);
            x.fresh(-1);
            x.saw(5, 342);
            x.fits(-1);
            x.surely(3);
            x.hired(1, 20, 0);
            x.goIn(12);
            x.meets(3, 20, 5, 1);
            x.odds(3, 2, 400, 0);
            x.keep(i % 2);
            x.rests(1);
            x.mark(4, 2);
            x.backs();
            x.undo();
            x.back(i % 2);
            x.count(3);
            x.now(3);
            x.forget();
        }
    }
}
