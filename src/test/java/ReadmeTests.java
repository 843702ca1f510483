import java.io.IOException;
import java.lang.reflect.Method;
import java.lang.reflect.Modifier;
import java.nio.file.Files;
import java.nio.file.Path;
import java.util.Set;
import java.util.TreeMap;
import java.util.TreeSet;
import java.util.regex.Matcher;
import java.util.regex.Pattern;

/** README.md is held to the class and to the document, for a page that nobody runs grows wrong unseen. */
public final class ReadmeTests {
    private static final Pattern TYPED = Pattern.compile("for \\(char c : \"([^\"]*)\"\\.toCharArray\\(\\)\\) \\{");
    private static final Pattern CALLED = Pattern.compile("boat\\.(\\w+)\\(([^)]*)\\);\\s+// (-?\\d+)(?:: (?:(BAD|STATE|FULL|NONE|NO),)?.*)?");
    private static final Pattern TOLD = Pattern.compile("\\| `(\\w+)\\(([^)]*)\\)`\\s*\\|([^|]*)\\|([^|]*)\\|");
    private static final Pattern PROMISED = Pattern.compile("`(?:int|long) (\\w+)\\(([^)]*)\\)`: (.*)");
    private static int wrong = 0;

    private static void check(boolean holds, String what) {
        if (!holds) {
            wrong++;
            System.out.println("not so: " + what);
        }
    }

    public static void main(String[] args) throws Exception {
        String page = Files.readString(Path.of("README.md"));
        Set<String> called = example(page);
        calls(page, called);
        constants(page);
        System.out.println(wrong == 0 ? "README.md is as the class is" : wrong + " faults of README.md");
        if (wrong != 0) {
            System.exit(1);
        }
    }

    /** Makes the calls of the first piece of Java; the names of those that were made. */
    private static Set<String> example(String page) throws Exception {
        Set<String> called = new TreeSet<>();
        int from = page.indexOf("```java\n");
        int till = page.indexOf("```\n", from + 1);
        check(from >= 0 && till > from, "there is an example");
        if (from < 0 || till <= from) {
            return called;
        }
        BoatLeggers boat = new BoatLeggers();
        for (String line : page.substring(from + "```java\n".length(), till).split("\n")) {
            Matcher typed = TYPED.matcher(line);
            Matcher call = CALLED.matcher(line);
            if (typed.matches()) {
                for (char c : typed.group(1).toCharArray()) {
                    boat.type(c);
                }
                called.add("type");
            } else if (call.matches()) {
                called.add(call.group(1));
                answered(boat, line, call);
            } else {
                check(line.matches("BoatLeggers boat = new BoatLeggers\\(\\);| {4}boat\\.type\\(c\\);|\\}"), "a line that is run: " + line);
            }
        }
        return called;
    }

    private static void answered(BoatLeggers boat, String line, Matcher call) throws Exception {
        String[] told = call.group(2).isEmpty() ? new String[0] : call.group(2).split(", ");
        Class<?>[] types = new Class<?>[told.length];
        Object[] numbers = new Object[told.length];
        for (int i = 0; i < told.length; i++) {
            types[i] = int.class;
            numbers[i] = Integer.valueOf(told[i]);
        }
        long got = ((Number) BoatLeggers.class.getMethod(call.group(1), types).invoke(boat, numbers)).longValue();
        check(got == Long.parseLong(call.group(3)), line + " (it answers " + got + ")");
        if (call.group(4) != null) {
            check(got == BoatLeggers.class.getField(call.group(4)).getInt(null), line + " (that is another constant)");
        }
    }

    /** Each call of the face has a row with the document's refusals, and there is no row of another one. */
    private static void calls(String page, Set<String> called) throws IOException {
        TreeMap<String, Integer> face = new TreeMap<>();
        for (Method m : BoatLeggers.class.getDeclaredMethods()) {
            if (Modifier.isPublic(m.getModifiers())) {
                face.put(m.getName(), m.getParameterCount());
            }
        }
        TreeMap<String, Set<String>> promised = promised();
        Set<String> rows = new TreeSet<>();
        Matcher row = TOLD.matcher(page);
        while (row.find()) {
            String name = row.group(1);
            check(rows.add(name), "one row of " + name);
            int many = row.group(2).isEmpty() ? 0 : row.group(2).split(", ").length;
            check(face.containsKey(name) && face.get(name) == many, "a call of the face: " + row.group());
            check(promised.isEmpty() || refusals(row.group(4)).equals(promised.get(name)), "refusals of " + name + ": " + promised.get(name));
            check(!row.group(3).isBlank(), "what it answers: " + row.group());
        }
        check(rows.equals(face.keySet()), "rows " + rows);
        Set<String> shown = new TreeSet<>(Set.of("clear", "forget"));
        shown.addAll(called);
        check(shown.equals(face.keySet()), "calls of the example " + called);
    }

    private static TreeMap<String, Set<String>> promised() throws IOException {
        TreeMap<String, Set<String>> all = new TreeMap<>();
        Path document = Path.of("../shared/DOC.md");
        if (!Files.isReadable(document)) {
            System.out.println("the document is not here: refusals are not held against it");
            return all;
        }
        Matcher promise = PROMISED.matcher(Files.readString(document));
        while (promise.find()) {
            all.put(promise.group(1), refusals(promise.group(3)));
        }
        return all;
    }

    private static Set<String> refusals(String words) {
        Set<String> found = new TreeSet<>();
        Matcher word = Pattern.compile("\\b(BAD|STATE|FULL|NO)\\b|-10 less").matcher(words);
        while (word.find()) {
            found.add(word.group());
        }
        return found;
    }

    private static void constants(String page) throws IllegalAccessException {
        for (java.lang.reflect.Field f : BoatLeggers.class.getFields()) {
            boolean row = Pattern.compile("`" + f.getName() + "`\\s*(\\|\\s*|\\()" + f.getInt(null) + "\\b").matcher(page).find();
            check(row, "the constant " + f.getName());
        }
    }
}
