import java.io.IOException;
import java.nio.file.Files;
import java.nio.file.Path;
import java.util.function.Consumer;
import java.util.function.Supplier;
import java.util.function.ToLongFunction;

/** What the edge tests have in common: a test for a sentence, an answer that is due, a call that changes nothing. */
final class Edges {
    static final int BAD = -1, STATE = -2, FULL = -3, NONE = -9, NO = -1000000;
    static final int LEAST = Integer.MIN_VALUE, GREATEST = Integer.MAX_VALUE;

    private static final String DOCUMENT = document();
    private static String sentence = "";
    private static int tests = 0;
    private static int dues = 0;
    private static int wrong = 0;

    private Edges() {
    }

    private static String document() {
        try {
            return plain(Files.readString(Path.of("../shared/DOC.md")));
        } catch (IOException e) {
            return "";
        }
    }

    private static String plain(String text) {
        return text.replaceAll("\\s+", " ");
    }

    /** A test of its own for words of the document; words that it no longer has are told, and their test still counts. */
    static void test(String words, Runnable body) {
        sentence = words;
        tests++;
        if (!DOCUMENT.contains(plain(words))) {
            System.out.println("the document does not say: " + words);
        }
        int before = dues;
        body.run();
        if (dues == before) {
            fail("the test asks nothing");
        }
    }

    private static void fail(String why) {
        wrong++;
        System.out.println("\"" + sentence + "\": " + why);
    }

    static void due(String what, long got, long want) {
        dues++;
        if (got != want) {
            fail(what + ": got " + got + ", due is " + want);
        }
    }

    /** Answers as due, and two objects that were made alike are alike in everything that can be asked, though only one got the call. */
    static void refused(String what, Supplier<Boat> made, ToLongFunction<Boat> call, long want) {
        Boat called = made.get();
        due(what, call.applyAsLong(called), want);
        alike(what, called, made.get());
    }

    static void changesNothing(String what, Supplier<Boat> made, Consumer<Boat> calls) {
        Boat called = made.get();
        calls.accept(called);
        alike(what, called, made.get());
    }

    private static void alike(String what, Boat called, Boat twin) {
        dues++;
        called.mark();
        askAll(called);
        twin.mark();
        askAll(twin);
        if (!called.sinceMark().equals(twin.sinceMark())) {
            String[] a = called.sinceMark().split("\n");
            String[] b = twin.sinceMark().split("\n");
            int i = 0;
            while (a[i].equals(b[i])) {
                i++;
            }
            fail(what + ": something has changed: " + a[i] + ", without the call: " + b[i]);
        }
    }

    /** All that can be asked; what can be asked only once, such as what may be undone, is taken last. */
    private static void askAll(Boat x) {
        askTold(x);
        askPlans(x);
        for (int i = 0; i < 11; i++) {
            x.undo();
            askNow(x);
        }
        for (int image = 0; image < 2; image++) {
            x.back(image);
            x.count(5);
            askNow(x);
        }
        x.tunnel();
        askTold(x);
    }

    private static void askTold(Boat x) {
        for (int what = 0; what < 7; what++) {
            x.count(what);
        }
        for (int what = 3; what < 7; what++) {
            x.now(what);
        }
        askNow(x);
        for (int t = 0; t < 6 && x.stretch(t, 0) != BAD; t++) {
            x.stretch(t, 1);
            x.stretch(t, 2);
            x.stretch(t, 3);
        }
        for (int w = 0; w < 4 && x.walker(w, 0) != BAD; w++) {
            x.walker(w, 1);
        }
        x.trace();
    }

    private static void askNow(Boat x) {
        x.now(0);
        x.now(1);
        x.now(2);
        int w = 0;
        while (w < 4 && x.walker(w, 2) != BAD) {
            w++;
        }
    }

    private static void askPlans(Boat x) {
        for (int i = -1; i < 6; i++) {
            x.best(i);
            x.fresh(i);
            x.fits(i);
            x.surely(i);
        }
        x.hired(1, 9, 0);
        x.hired(1, 9, 1);
        x.goIn(1);
        x.meets(1, 0, 5, 0);
        x.odds(1, 5, 60, 0);
    }

    /** At the end of a main method: tells how it went, and ends with 1 if an answer was wrong. */
    static void end() {
        System.out.println(tests + " sentences, " + dues + " answers, " + wrong + " not as due");
        if (wrong != 0) {
            System.exit(1);
        }
    }
}
