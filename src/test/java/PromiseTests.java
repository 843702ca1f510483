import java.util.Objects;

/** Each promise of the document by hand-reckoned answers: ordinary inputs, edges, wrong inputs. */
public final class PromiseTests {
    private static final int BAD = -1, STATE = -2, FULL = -3, NONE = -9, NO = -1000000;
    private static int wrong = 0;

    private static void due(int promise, String what, long got, long want) {
        if (!Objects.equals(got, want)) {
            wrong++;
            System.out.println("promise " + promise + ", " + what + ": got " + got + ", due is " + want);
        }
    }

    private static void write(BoatLeggers x, String text) {
        for (int i = 0; i < text.length(); i++) {
            x.type(text.charAt(i));
        }
    }

    private static BoatLeggers told(String text) {
        BoatLeggers x = new BoatLeggers();
        write(x, text);
        int items = x.tunnel();
        if (items < 0) {
            throw new IllegalStateException("the test's own text is faulty: " + text + " at " + (-10 - items));
        }
        return x;
    }

    private static void fault(String text, int place) {
        BoatLeggers x = told("w1 1;");
        write(x, text);
        due(4, "fault of '" + text + "'", x.tunnel(), -10 - place);
        due(4, "text stays '" + text + "'", x.count(6), text.length());
        due(4, "walkers stay '" + text + "'", x.count(0), 1);
        due(4, "stretches stay '" + text + "'", x.count(1), 0);
        due(4, "change stays '" + text + "'", x.count(2), 1);
        due(4, "hours stay '" + text + "'", x.count(3), 0);
    }

    public static void main(String[] args) {
        newObject();
        typeAndClear();
        tunnelReads();
        tunnelFaults();
        tunnelAnew();
        walkersAndStretches();
        takes();
        walks();
        walksAtTheLastMinute();
        backs();
        rests();
        undo();
        now();
        best();
        fresh();
        hired();
        goIn();
        meets();
        odds();
        sawAndForget();
        fitsAndSurely();
        marks();
        images();
        counts();
        System.out.println(wrong == 0 ? "all promises are kept" : wrong + " answers are not as due");
        if (wrong != 0) {
            System.exit(1);
        }
    }

    private static void newObject() {
        BoatLeggers x = new BoatLeggers();
        int[] counts = {0, 0, 1, 0, 0, 0, 0};
        for (int i = 0; i < counts.length; i++) {
            due(1, "count(" + i + ")", x.count(i), counts[i]);
        }
        int[] nows = {0, 0, NONE, 0, 1, 0, 1};
        for (int i = 0; i < nows.length; i++) {
            due(1, "now(" + i + ")", x.now(i), nows[i]);
        }
        due(1, "trace", x.trace(), 0);
        due(1, "walker", x.walker(0, 0), BAD);
        due(1, "stretch", x.stretch(0, 0), BAD);
        due(1, "takes", x.takes(0, 1), BAD);
        due(1, "walks", x.walks(1), BAD);
        due(1, "backs", x.backs(), STATE);
        due(1, "undo", x.undo(), STATE);
        due(1, "back", x.back(0), STATE);
        due(1, "fits", x.fits(-1), 1);
        due(1, "fits(0)", x.fits(0), BAD);
        due(1, "BAD", BoatLeggers.BAD, BAD);
        due(1, "STATE", BoatLeggers.STATE, STATE);
        due(1, "FULL", BoatLeggers.FULL, FULL);
        due(1, "NONE", BoatLeggers.NONE, NONE);
        due(1, "NO", BoatLeggers.NO, NO);
    }

    private static void typeAndClear() {
        BoatLeggers x = new BoatLeggers();
        due(2, "below 0", x.type(-1), BAD);
        due(2, "above 255", x.type(256), BAD);
        due(2, "least", x.type(0), 1);
        due(2, "greatest", x.type(255), 2);
        due(3, "two bytes", x.clear(), 2);
        due(3, "none", x.clear(), 0);
        for (int i = 1; i <= 200; i++) {
            due(2, "byte " + i, x.type(32), i);
        }
        due(2, "one more", x.type(32), FULL);
        due(2, "bad goes first", x.type(999), BAD);
        due(2, "nothing changed", x.count(6), 200);
        due(4, "blanks tell nothing", x.tunnel(), 0);
        due(4, "text is empty", x.count(6), 0);
        due(2, "room again", x.type(119), 1);
        due(3, "one", x.clear(), 1);
    }

    private static void tunnelReads() {
        BoatLeggers x = told("  w 9 40 ;w1 1; h 99;c 0;t 9 18 1 1;t1 2 0 0 ;  ");
        due(4, "walkers", x.count(0), 2);
        due(4, "stretches", x.count(1), 2);
        due(4, "change", x.count(2), 0);
        due(4, "hours", x.count(3), 99);
        due(4, "empty text", x.tunnel(), 0);
        due(4, "no walkers then", x.count(0), 0);
        due(4, "no stretches then", x.count(1), 0);
        due(4, "change at first", x.count(2), 1);
        due(4, "hours at first", x.count(3), 0);
        write(x, "w1 1;w1 2;w1 3;w1 4;t1 2 0 0;t1 3 0 0;t1 4 0 0;t1 5 0 0;t1 6 0 0;t1 7 0 0;c 9;h 10;");
        due(4, "most items", x.tunnel(), 12);
        write(x, "w1 1;w1 1;t1 2 0 0;");
        due(4, "again", x.tunnel(), 3);
        due(4, "change is not told again", x.count(2), 1);
        due(4, "hours are not told again", x.count(3), 0);
    }

    private static void tunnelFaults() {
        fault(";", 0);
        fault("3", 0);
        fault("x 1;", 0);
        fault("  x", 2);
        fault("W1 1;", 0);
        fault("ww 1 1;", 0);
        fault("w", 1);
        fault("w  ", 3);
        fault("w 1", 3);
        fault("w 1 1", 5);
        fault("w 1 1 ", 6);
        fault("w;", 1);
        fault("w w", 2);
        fault("w0 1;", 1);
        fault("w10 1;", 1);
        fault("w 1 0;", 4);
        fault("w 1 41;", 4);
        fault("w 1 1 1;", 6);
        fault("w 1 1 w", 6);
        fault("w 01 1;", 2);
        fault("w 1 00;", 4);
        fault("w 1 100;", 4);
        fault("w 1 4294967297;", 4);
        fault("w 1 18446744073709551617 ;", 4);
        fault("w 1,1;", 3);
        fault("w 1 1;\t", 6);
        fault("w 1 -1;", 4);
        fault("w 1 1;;", 6);
        fault("w 1 1;\u00ff", 6);
        fault("w 1 1;\u0000", 6);
        fault("w1 1;w1 1;w1 1;w1 1; w1 1;", 21);
        fault("w1 1;w1 1;w1 1;w1 1;w", 20);
        fault("t1 2 0 0;t1 2 0 0;t1 2 0 0;t1 2 0 0;t1 2 0 0;t1 2 0 0;t", 54);
        fault("t0 2 0 0;", 1);
        fault("t10 2 0 0;", 1);
        fault("t1 1 0 0;", 3);
        fault("t1 19 0 0;", 3);
        fault("t1 2 2 0;", 5);
        fault("t1 2 0 2;", 7);
        fault("t1 2 0;", 6);
        fault("c10;", 1);
        fault("c1;c1;", 3);
        fault("h9;", 1);
        fault("h100;", 1);
        fault("h10;c1;h10;", 7);
        fault("w 1 1; x $", 7);
        fault("x".repeat(200), 0);
        fault("w 1 1;".repeat(3) + "c " + "1".repeat(180), 20);
        fault(" ".repeat(199) + "w", 200);
        fault(" ".repeat(199) + "x", 199);
        fault("w" + " ".repeat(199), 200);
        BoatLeggers x = new BoatLeggers();
        write(x, "w1 12;");
        x.clear();
        write(x, "w1 1");
        due(4, "bytes of an older text", x.tunnel(), -14);
        x.clear();
        write(x, "ww");
        x.clear();
        write(x, "w");
        due(4, "letters of an older text", x.tunnel(), -11);
    }

    private static void tunnelAnew() {
        BoatLeggers x = told("w1 1;w1 1;t1 2 0 1;t1 2 0 1;");
        x.walks(1);
        x.keep(0);
        x.keep(1);
        x.saw(0, 4);
        x.mark(0, 0);
        x.best(-1);
        x.fresh(-1);
        x.fits(-1);
        write(x, "w1 1;w1 1;t1 2 0 1;$");
        due(4, "fault", x.tunnel(), -29);
        due(4, "gone stays", x.now(0), 1);
        due(4, "seen stays", x.count(4), 1);
        due(4, "undo stays", x.count(5), 1);
        due(4, "image stays", x.back(1), 4);
        x.clear();
        write(x, "w1 1;w1 1;w2 2;t1 2 0 1;");
        due(4, "anew", x.tunnel(), 4);
        int[] nows = {0, 0, NONE, 0, 1, 1, 0};
        for (int i = 0; i < nows.length; i++) {
            due(4, "now(" + i + ")", x.now(i), nows[i]);
        }
        due(4, "nobody tired", x.walker(0, 2), 0);
        due(4, "nothing seen", x.count(4), 0);
        due(4, "nothing to undo", x.undo(), STATE);
        due(4, "image 0 is gone", x.back(0), STATE);
        due(4, "image 1 is gone", x.back(1), STATE);
        due(4, "plans are new", x.best(-1), 4);
        due(4, "plans are new", x.best(1), NONE);
        due(4, "fits are new", x.fits(-1), 3);
        due(27, "the trace is not", x.trace(), 1);
    }

    private static void walkersAndStretches() {
        BoatLeggers x = told("w2 3;w9 40;t4 5 0 1;t9 18 1 0;");
        int[][] walkers = {{2, 3, 0, 0}, {9, 40, 0, 0}};
        int[][] stretches = {{4, 5, 0, 1}, {9, 18, 1, 0}};
        for (int i = 0; i < 2; i++) {
            for (int j = 0; j < 4; j++) {
                due(5, "walker(" + i + ", " + j + ")", x.walker(i, j), walkers[i][j]);
                due(6, "stretch(" + i + ", " + j + ")", x.stretch(i, j), stretches[i][j]);
            }
        }
        int[] bad = {-1, 2, 3, Integer.MIN_VALUE, Integer.MAX_VALUE};
        for (int i : bad) {
            due(5, "no walker " + i, x.walker(i, 0), BAD);
            due(6, "no stretch " + i, x.stretch(i, 0), BAD);
        }
        int[] badWhat = {-1, 4, Integer.MIN_VALUE, Integer.MAX_VALUE};
        for (int i : badWhat) {
            due(5, "what " + i, x.walker(0, i), BAD);
            due(6, "what " + i, x.stretch(0, i), BAD);
        }
        x.walks(1);
        due(5, "tired", x.walker(0, 2), 4);
        due(5, "worn", x.walker(0, 3), 1);
        due(5, "not worn", x.walker(1, 3), 0);
        x.rests(1);
        due(5, "as tired as strong is not worn", x.walker(0, 3), 0);
    }

    private static void takes() {
        BoatLeggers x = told("w3 1;w4 9;w9 1;t2 7 0 0;t2 8 0 0;t2 3 0 0;t2 2 0 0;t2 7 1 0;");
        due(7, "as broad as both", x.takes(0, 1), 8);
        due(7, "wide", x.takes(1, 1), 12);
        due(7, "as broad as both less 4", x.takes(2, 1), 8);
        due(7, "narrow", x.takes(3, 1), 10);
        due(7, "slimy", x.takes(4, 1), 10);
        due(7, "narrow and slimy", x.takes(4, 2), 12);
        int[] noPairs = {-1, 0, 3, 10, 11, 13, 20, 21, 22, 23, 100, 102, 112, -12, Integer.MIN_VALUE, Integer.MAX_VALUE};
        for (int pair : noPairs) {
            due(7, "no pair " + pair, x.takes(0, pair), BAD);
        }
        due(7, "no stretch -1", x.takes(-1, 1), BAD);
        due(7, "no stretch 5", x.takes(5, 1), BAD);
        x.walks(1);
        due(7, "one worn", x.takes(0, 1), 14);
        due(7, "the other is not", x.takes(0, 12), 2 * 5);
        x.walks(2);
        due(7, "two worn", x.takes(0, 2), 2 * (4 + 1 + 6));
        due(7, "nothing changes", x.now(1), 8 + 1 + 2 * (4 + 3));
    }

    private static void walks() {
        BoatLeggers x = told("w3 9;w4 9;w5 9;t5 7 0 0;t3 7 0 0;t9 7 0 0;c 4;");
        due(8, "no change at first", x.walks(1), 20);
        due(8, "tired 0", x.walker(0, 2), 5);
        due(8, "tired 1", x.walker(1, 2), 5);
        due(8, "tired 2", x.walker(2, 2), 0);
        due(8, "no pair", x.walks(21), BAD);
        due(8, "no pair 3", x.walks(3), BAD);
        due(8, "refused changes nothing", x.now(1), 20);
        due(8, "a change", x.walks(12), 4 + 12);
        due(8, "less tired", x.walker(0, 2), 2);
        due(8, "more tired", x.walker(1, 2), 8);
        due(8, "tired then", x.walker(2, 2), 3);
        due(8, "no change", x.walks(12), 36);
        due(8, "not below 0", x.walker(0, 2), 0);
        due(8, "worn", x.now(3), 6);
        due(8, "through", x.walks(12), STATE);
        due(8, "bad goes first", x.walks(9), BAD);
        due(8, "minute", x.now(1), 72);
        due(8, "three to undo", x.count(5), 3);
        BoatLeggers y = told("w1 40;w1 40;t9 2 0 0;t9 2 0 0;");
        for (int i = 0; i < 6; i++) {
            y.walks(1);
            y.backs();
        }
        due(8, "99 at most", y.walker(0, 2), 99);
    }

    private static void walksAtTheLastMinute() {
        BoatLeggers x = told("w1 1;w1 1;t1 2 0 0;t1 2 0 0;");
        for (int i = 0; i < 100; i++) {
            x.rests(99);
        }
        x.rests(95);
        due(8, "to 9999", x.walks(1), 4);
        due(8, "minute", x.now(1), 9999);
        due(8, "beyond", x.walks(1), STATE);
        due(9, "beyond", x.backs(), STATE);
        due(10, "beyond", x.rests(1), STATE);
        due(10, "bad goes first", x.rests(100), BAD);
        due(8, "gone", x.now(0), 1);
        due(8, "undo", x.count(5), 10);
        x.undo();
        due(10, "to 9999", x.rests(4), 9999);
        x.undo();
        due(10, "9999 is the last", x.rests(5), STATE);
        due(10, "9998", x.rests(3), 9998);
        due(8, "would be 10002", x.walks(1), STATE);
        BoatLeggers y = told("w1 1;w1 1;t1 2 0 0;");
        for (int i = 0; i < 100; i++) {
            y.rests(99);
        }
        y.rests(87);
        y.walks(1);
        due(9, "to 9999", y.backs(), 8);
        due(9, "minute", y.now(1), 9999);
        y.undo();
        y.rests(1);
        due(9, "to 10000", y.backs(), STATE);
    }

    private static void backs() {
        BoatLeggers x = told("w1 3;w1 9;w1 9;t4 2 0 0;t2 2 1 0;c 7;");
        due(9, "ahead of all", x.backs(), STATE);
        x.walks(1);
        x.walks(12);
        due(9, "by the latest pair", x.backs(), 2 * 2 * 5);
        due(9, "tired 0", x.walker(0, 2), 0);
        due(9, "tired 1", x.walker(1, 2), 8);
        due(9, "tired 2", x.walker(2, 2), 4);
        due(9, "gone", x.now(0), 1);
        due(9, "by the latest pair again", x.backs(), 2 * 4 * 4);
        due(9, "gone", x.now(0), 0);
        due(9, "pair stays", x.now(2), 12);
        due(9, "minute", x.now(1), 16 + 17 + 20 + 32);
        due(9, "none is left", x.backs(), STATE);
        due(8, "worn, and no change", x.walks(12), 4 * 7);
        due(9, "both worn", x.backs(), 2 * 4 * (4 + 3 + 3));
        due(8, "a change, there was a pair", x.walks(1), 7 + 4 * 7);
    }

    private static void rests() {
        BoatLeggers x = told("w1 3;w1 9;t9 2 0 0;");
        due(10, "0", x.rests(0), BAD);
        due(10, "100", x.rests(100), BAD);
        due(10, "-1", x.rests(-1), BAD);
        x.walks(1);
        due(10, "5", x.rests(5), 41);
        due(10, "less tired", x.walker(0, 2), 4);
        due(10, "99", x.rests(99), 140);
        due(10, "not below 0", x.walker(1, 2), 0);
        due(10, "pair stays", x.now(2), 1);
        due(10, "undone at once", x.undo(), 2);
        due(10, "minute is back", x.now(1), 41);
        due(10, "tired is back", x.walker(1, 2), 4);
    }

    private static void undo() {
        BoatLeggers x = told("w1 3;w1 9;w1 9;t4 2 0 0;t2 2 1 0;");
        due(11, "none", x.undo(), STATE);
        x.walks(1);
        x.walks(12);
        x.backs();
        due(11, "backing", x.undo(), 2);
        due(11, "gone", x.now(0), 2);
        due(11, "pair", x.now(2), 12);
        due(11, "walking", x.undo(), 1);
        due(11, "gone", x.now(0), 1);
        due(11, "pair", x.now(2), 1);
        due(11, "minute", x.now(1), 16);
        due(11, "tired", x.walker(0, 2), 4);
        due(11, "the first", x.undo(), 0);
        due(11, "no pair", x.now(2), NONE);
        due(11, "none any more", x.undo(), STATE);
        for (int i = 1; i <= 12; i++) {
            x.rests(i);
        }
        due(11, "ten are known", x.count(5), 10);
        for (int i = 9; i >= 0; i--) {
            due(11, "more", x.undo(), i);
        }
        due(11, "older ones are lost", x.now(1), 3);
        due(11, "none", x.undo(), STATE);
        due(11, "refused ones are not known", x.walks(99), BAD);
        due(11, "still none", x.undo(), STATE);
    }

    private static void now() {
        BoatLeggers x = told("w1 3;w1 9;w1 9;t4 2 0 0;t2 2 1 0;h 10;");
        due(12, "free at first", x.now(4), 1);
        due(12, "furlongs", x.now(5), 6);
        due(12, "through", x.now(6), 0);
        x.rests(9);
        due(12, "minute 9", x.now(4), 1);
        x.rests(1);
        due(12, "minute 10", x.now(4), 0);
        x.rests(9);
        due(12, "minute 19", x.now(4), 0);
        x.rests(1);
        due(12, "minute 20", x.now(4), 1);
        x.walks(2);
        due(12, "gone", x.now(0), 1);
        due(12, "minute", x.now(1), 36);
        due(12, "pair", x.now(2), 2);
        due(12, "worn", x.now(3), 1);
        due(12, "furlongs", x.now(5), 2);
        due(12, "minute 36", x.now(4), 0);
        x.walks(2);
        due(12, "through", x.now(6), 1);
        due(12, "no furlongs", x.now(5), 0);
        due(12, "what -1", x.now(-1), BAD);
        due(12, "what 7", x.now(7), BAD);
    }

    private static void best() {
        BoatLeggers x = told("w5 1;w5 1;w5 1;w5 1;t3 10 0 0;t3 10 0 0;c 2;");
        // 01 then 23: 12 + 2 + 12; 01 twice: 12 + 3 * 10; 01 then 02: 12 + 2 + 3 * 7
        due(13, "minutes", x.best(-1), 26);
        due(13, "the first", x.best(0), 1);
        due(13, "the second", x.best(1), 23);
        due(13, "no such stretch", x.best(2), NONE);
        due(13, "no such stretch", x.best(5), NONE);
        due(13, "-2", x.best(-2), BAD);
        due(13, "6", x.best(6), BAD);
        x.walks(2);
        due(13, "from now on", x.best(-1), 14);
        due(13, "gone", x.best(0), NONE);
        due(13, "to come", x.best(1), 13);
        x.rests(3);
        due(13, "after a rest no change", x.best(-1), 12);
        due(13, "after a rest", x.best(1), 2);
        x.undo();
        due(13, "undone", x.best(1), 13);
        x.walks(13);
        due(13, "through", x.best(-1), NONE);
        due(13, "through", x.best(1), NONE);
        x.backs();
        due(13, "after backing", x.best(1), 2);
        BoatLeggers one = told("w5 1;t3 10 0 0;");
        due(13, "one walker", one.best(-1), NONE);
        due(13, "one walker", one.best(0), NONE);
        due(13, "bad all the same", one.best(6), BAD);
        due(13, "no stretch", told("w5 1;w5 1;").best(-1), NONE);
        BoatLeggers same = told("w5 9;w5 9;w5 9;t3 10 0 0;t3 10 0 0;c 0;");
        due(13, "of several the first", same.best(0), 1);
        due(13, "of several the first", same.best(1), 1);
    }

    private static void fresh() {
        BoatLeggers x = told("w5 3;w5 9;w1 9;t4 10 0 0;t1 10 0 0;c 9;");
        // 01 twice: 16 + 7; never worn: 12 twice: 24 + 6
        due(14, "best is quicker", x.best(-1), 23);
        due(14, "minutes", x.fresh(-1), 30);
        due(14, "the first", x.fresh(0), 12);
        due(14, "the second", x.fresh(1), 12);
        due(14, "no such stretch", x.fresh(2), NONE);
        due(14, "-2", x.fresh(-2), BAD);
        due(14, "6", x.fresh(6), BAD);
        x.walks(1);
        due(14, "0 is worn", x.fresh(1), 12);
        due(14, "gone", x.fresh(0), NONE);
        due(14, "with a change", x.fresh(-1), 9 + 6);
        x.rests(1);
        due(14, "0 is not worn", x.fresh(1), 1);
        BoatLeggers y = told("w5 1;w5 1;t2 10 0 0;t2 10 0 0;");
        due(14, "none", y.fresh(-1), NONE);
        due(14, "none", y.fresh(0), NONE);
        due(14, "one walker", told("w5 1;t2 10 0 0;").fresh(-1), NONE);
    }

    private static void hired() {
        BoatLeggers x = told("w5 2;w5 9;w5 9;t3 10 0 0;t2 10 0 0;t2 10 0 0;c 9;");
        // alone: 12 + 2 * 7 + 2 * 7
        due(15, "no pence", x.hired(1, 0, 0), 0);
        due(15, "no pence", x.hired(1, 0, 1), 40);
        // set 2: 12 + 6 + 8 = 26; set 4: 12 + 14 + 6
        due(15, "2 pence", x.hired(1, 2, 0), 2);
        due(15, "2 pence", x.hired(1, 2, 1), 26);
        // set 1: 9 + 8 + 8 = 25
        due(15, "3 pence", x.hired(1, 3, 0), 1);
        due(15, "3 pence", x.hired(1, 3, 1), 25);
        // sets 2 | 4: 12 + 6 + 6 = 24
        due(15, "4 pence", x.hired(1, 4, 0), 6);
        due(15, "all", x.hired(1, 99, 0), 7);
        due(15, "all", x.hired(1, 99, 1), 21);
        x.walks(12);
        due(15, "to come alone, no change counted", x.hired(1, 99, 0), 6);
        due(15, "to come alone, no change counted", x.hired(1, 99, 1), 12);
        due(15, "least bits", x.hired(1, 2, 0), 2);
        due(15, "least bits", x.hired(1, 2, 1), 14);
        x.walks(12);
        x.walks(12);
        due(15, "through", x.hired(1, 99, 0), 0);
        due(15, "through", x.hired(1, 99, 1), 0);
        int[][] bad = {{10, 0, 0}, {3, 0, 0}, {1, -1, 0}, {1, 100, 0}, {1, 0, -1}, {1, 0, 2}};
        for (int[] b : bad) {
            due(15, "bad", x.hired(b[0], b[1], b[2]), BAD);
        }
        // each saves 2 minutes, the slimy one for a penny less
        BoatLeggers y = told("w5 40;w5 40;t2 10 0 0;t1 10 1 0;");
        due(15, "least pence", y.hired(1, 2, 0), 2);
        due(15, "least pence", y.hired(1, 2, 1), 11);
    }

    private static void goIn() {
        BoatLeggers x = told("w5 9;w5 9;w5 9;t2 10 0 0;t3 10 0 0;h 20;c 3;");
        due(16, "just fits", x.goIn(1), 0);
        due(16, "no pair", x.goIn(3), BAD);
        due(16, "no pair", x.goIn(-1), BAD);
        x.rests(1);
        due(16, "waits for the next", x.goIn(1), 39);
        x.rests(39);
        due(16, "at its first minute", x.goIn(1), 0);
        x.walks(1);
        due(16, "12 of 12 are left", x.goIn(1), 0);
        due(16, "a change", x.goIn(2), 32);
        x.rests(12);
        due(16, "not free now", x.goIn(1), 20);
        x.walks(1);
        due(16, "through, a free minute", x.goIn(1), 8);
        BoatLeggers always = told("w5 9;w5 9;t2 10 0 0;");
        always.rests(77);
        due(16, "always free", always.goIn(1), 0);
        BoatLeggers tooLong = told("w5 9;w5 9;t6 10 0 0;h 23;");
        due(16, "too long", tooLong.goIn(1), NONE);
        BoatLeggers late = told("w5 9;w5 9;t1 10 0 0;h 99;");
        late.rests(96);
        due(16, "102 to wait", late.goIn(1), 102);
        BoatLeggers tired = told("w5 1;w5 1;t2 10 0 0;t2 10 0 0;h 10;");
        tired.walks(1);
        tired.rests(2);
        due(16, "tired stay", tired.goIn(1), 10);
        tired.undo();
        due(16, "tired stay, however long", tired.goIn(1), NONE);
    }

    private static void meets() {
        BoatLeggers x = told("w5 40;w5 40;w5 40;t2 10 0 0;t3 10 0 0;t4 10 0 0;c 5;");
        // ours 0..8, 8..20, 20..36; theirs at n = 0, k = 2: 0..8, 8..14, 14..18
        due(17, "stretch", x.meets(1, 0, 2, 0), 1);
        due(17, "we", x.meets(1, 0, 2, 1), 0);
        // n = 12, k = 2: 12..20, 20..26, 26..30: both of them at 20 in stretch 1
        due(17, "the first of ours", x.meets(1, 12, 2, 0), 1);
        due(17, "stretch 2", x.meets(1, 13, 2, 0), 2);
        due(17, "they", x.meets(1, 13, 2, 1), 1);
        due(17, "as we leave", x.meets(1, 36, 9, 0), 2);
        due(17, "we left", x.meets(1, 37, 9, 0), NONE);
        due(17, "we left", x.meets(1, 37, 9, 1), NONE);
        // n = 0, k = 1: 0..4, 4..7, 7..9
        due(17, "stretch 0", x.meets(1, 0, 1, 0), 0);
        due(17, "we, not in at all", x.meets(1, 0, 1, 1), 0);
        x.walks(1);
        // ours 0..12, 12..28; theirs at n = 8, k = 1: 8..12, 12..15
        due(17, "from now on", x.meets(1, 8, 1, 0), 1);
        due(17, "0 to 4", x.meets(1, 8, 1, 1), 0);
        due(17, "from where we are", x.meets(1, 9, 1, 0), 2);
        due(17, "3 to 0", x.meets(1, 9, 1, 1), 1);
        // with a change: ours 0..17
        due(17, "a change", x.meets(2, 13, 1, 0), 1);
        x.walks(1);
        x.walks(1);
        due(17, "through", x.meets(1, 0, 9, 0), NONE);
        due(17, "the latest", x.meets(1, 200, 9, 0), NONE);
        int[][] bad = {{3, 0, 1, 0}, {1, -1, 1, 0}, {1, 201, 1, 0}, {1, 0, 0, 0}, {1, 0, 10, 0}, {1, 0, 1, -1}, {1, 0, 1, 2}};
        for (int[] b : bad) {
            due(17, "bad", x.meets(b[0], b[1], b[2], b[3]), BAD);
        }
        BoatLeggers even = told("w5 40;w5 40;t2 10 0 0;t3 10 0 0;t2 10 0 0;");
        due(17, "in the middle", even.meets(1, 0, 4, 0), 1);
        due(17, "as many: they", even.meets(1, 0, 4, 1), 1);
    }

    private static void odds() {
        BoatLeggers x = told("w5 40;w5 40;w5 40;t2 10 1 0;t2 10 0 0;t2 10 1 0;c 4;");
        // 10 + 8 + 10
        due(18, "too few", x.odds(1, 3, 27, 0), 0);
        due(18, "too few", x.odds(1, 3, 27, 1), 1);
        due(18, "no slip", x.odds(1, 3, 28, 0), 49);
        due(18, "no slip", x.odds(1, 3, 28, 1), 100);
        due(18, "one slip", x.odds(1, 3, 33, 0), 91);
        due(18, "one slip", x.odds(1, 3, 33, 1), 100);
        due(18, "just not", x.odds(1, 3, 32, 0), 49);
        due(18, "all", x.odds(1, 3, 38, 0), 1);
        due(18, "all", x.odds(1, 3, 38, 1), 1);
        due(18, "least terms", x.odds(1, 5, 28, 0), 1);
        due(18, "least terms", x.odds(1, 5, 28, 1), 4);
        due(18, "never", x.odds(1, 0, 28, 0), 1);
        due(18, "least m", x.odds(1, 0, 0, 1), 1);
        due(18, "least m", x.odds(1, 0, 0, 0), 0);
        due(18, "greatest m", x.odds(1, 3, 9999, 0), 1);
        due(18, "always", x.odds(1, 10, 37, 0), 0);
        due(18, "always", x.odds(1, 10, 38, 0), 1);
        x.walks(1);
        due(18, "from now on", x.odds(1, 2, 18, 0), 4);
        due(18, "from now on", x.odds(1, 2, 18, 1), 5);
        due(18, "a change", x.odds(2, 2, 21, 0), 0);
        due(18, "a change", x.odds(2, 2, 22, 0), 4);
        int[][] bad = {{3, 0, 1, 0}, {1, -1, 1, 0}, {1, 11, 1, 0}, {1, 0, -1, 0}, {1, 0, 10000, 0}, {1, 0, 1, -1}, {1, 0, 1, 2}};
        for (int[] b : bad) {
            due(18, "bad", x.odds(b[0], b[1], b[2], b[3]), BAD);
        }
        BoatLeggers six = told("w5 40;w5 40;t1 10 1 0;t1 10 1 0;t1 10 1 0;t1 10 1 0;t1 10 1 0;t1 10 1 0;");
        due(18, "six", six.odds(1, 3, 30, 0), 117649);
        due(18, "six", six.odds(1, 3, 30, 1), 1000000);
    }

    private static void sawAndForget() {
        BoatLeggers x = told("w5 40;w5 40;t2 10 1 1;t2 10 0 0;");
        due(19, "no shaft", x.saw(1, 0), BAD);
        due(19, "no stretch", x.saw(2, 0), BAD);
        due(19, "no stretch", x.saw(-1, 0), BAD);
        due(19, "minute -1", x.saw(0, -1), BAD);
        due(19, "minute 10000", x.saw(0, 10000), BAD);
        due(20, "nothing", x.forget(), 0);
        for (int i = 1; i <= 6; i++) {
            due(19, "seen", x.saw(0, i == 1 ? 9999 : 0), i);
        }
        due(19, "full", x.saw(0, 0), FULL);
        due(19, "bad goes first", x.saw(1, 0), BAD);
        due(20, "six", x.forget(), 6);
        due(20, "none then", x.count(4), 0);
        due(19, "anew", x.saw(0, 10), 1);
    }

    private static void fitsAndSurely() {
        BoatLeggers x = told("w4 9;w5 9;w1 9;t2 9 0 1;t2 9 0 0;t3 9 0 1;c 2;");
        // 01 takes 4 a furlong, 02 and 12 take 6
        due(21, "nothing seen", x.fits(-1), 27);
        due(21, "the first", x.fits(2), 1);
        due(22, "nothing is sure", x.surely(0), 0);
        due(21, "no stretch", x.fits(3), BAD);
        due(21, "-2", x.fits(-2), BAD);
        due(22, "no stretch", x.surely(3), BAD);
        due(22, "-1", x.surely(-1), BAD);
        x.saw(0, 12);
        due(21, "02 or 12", x.fits(-1), 18);
        due(21, "02 is the first", x.fits(0), 2);
        due(22, "2 surely", x.surely(0), 4);
        due(22, "behind it none", x.surely(1), 0);
        // to the end in 42: 02 02 02 or 12 12 12; 12 + 2 + 8 + 2 + 18 too
        x.saw(2, 42);
        due(21, "as many", x.fits(-1), 6);
        due(21, "the first", x.fits(0), 2);
        due(21, "the first", x.fits(1), 1);
        due(21, "the first", x.fits(2), 2);
        due(22, "2 at the end", x.surely(2), 4);
        due(22, "none in the middle", x.surely(1), 0);
        x.saw(2, 42);
        due(21, "seen twice", x.fits(-1), 6);
        x.saw(2, 43);
        due(21, "never both", x.fits(-1), 0);
        due(21, "none", x.fits(0), NONE);
        due(22, "none", x.surely(0), 0);
        x.forget();
        due(21, "forgotten", x.fits(-1), 27);
        x.rests(50);
        x.walks(12);
        x.saw(0, 8);
        due(21, "from the beginning on", x.fits(-1), 9);
        due(22, "0 and 1", x.surely(0), 3);
        due(21, "one walker, no row", told("w1 1;t1 2 0 1;").fits(-1), 0);
        due(22, "one walker, no row", told("w1 1;t1 2 0 1;").surely(0), 0);
        due(21, "one walker, no row", told("w1 1;t1 2 0 1;").fits(0), NONE);
        BoatLeggers two = told("w1 1;w1 1;t1 2 0 1;t1 2 0 0;");
        due(22, "who else", two.surely(1), 3);
        BoatLeggers four = told("w1 1;w1 1;w1 1;w1 1;t1 2 0 1;t1 2 0 0;t1 2 0 0;t1 2 0 0;t1 2 0 0;t1 2 0 0;");
        due(21, "all rows", four.fits(-1), 46656);
    }

    private static void marks() {
        BoatLeggers x = told("w5 40;w5 40;w5 40;t5 11 0 1;t2 10 1 0;t7 3 0 1;");
        x.walks(1);
        // tired 5, 5, 0, minute 5 * 6
        long[] want = {7, 10, 7 - 10, 20, 7 - 10 + 2, 7 + 30};
        long[] traces = {1, 11, 101, 1011, 10101, 100001};
        long trace = 0;
        for (int kind = 0; kind < want.length; kind++) {
            due(23, "kind " + kind, x.mark(kind, 2), want[kind]);
            trace += traces[kind];
            due(27, "after kind " + kind, x.trace(), trace);
        }
        int[][] bad = {{-1, 0}, {6, 0}, {0, -1}, {0, 3}, {5, 6}, {Integer.MAX_VALUE, Integer.MIN_VALUE}};
        for (int[] b : bad) {
            due(23, "no", x.mark(b[0], b[1]), NO);
        }
        due(27, "refused ones do not come to it", x.trace(), trace);
        x.undo();
        due(27, "undoing does not change it", x.trace(), trace);
        due(23, "nobody tired", x.mark(2, 2), 7);
        due(23, "minute 0", x.mark(5, 0), 5);
    }

    private static void images() {
        BoatLeggers x = told("w1 3;w1 9;w1 9;t4 2 0 1;t2 2 1 0;");
        due(24, "-1", x.keep(-1), BAD);
        due(24, "2", x.keep(2), BAD);
        due(25, "-1", x.back(-1), BAD);
        due(25, "2", x.back(2), BAD);
        due(25, "none kept", x.back(0), STATE);
        x.walks(1);
        x.rests(1);
        due(24, "minute", x.keep(0), 17);
        due(25, "the other one is not kept", x.back(1), STATE);
        x.walks(12);
        due(24, "minute", x.keep(1), 28);
        x.undo();
        x.undo();
        x.undo();
        x.saw(0, 16);
        x.mark(0, 0);
        due(25, "back to 0", x.back(0), 17);
        due(25, "gone", x.now(0), 1);
        due(25, "pair", x.now(2), 1);
        due(25, "tired", x.walker(0, 2), 3);
        due(25, "undo", x.count(5), 2);
        due(25, "seen stays", x.count(4), 1);
        due(25, "trace stays", x.trace(), 1);
        due(25, "plans are new", x.best(-1), 10);
        x.rests(9);
        due(25, "undone", x.undo(), 2);
        due(25, "undone", x.undo(), 1);
        due(25, "minute", x.now(1), 16);
        due(25, "back to 1", x.back(1), 28);
        due(25, "through", x.now(6), 1);
        due(25, "no plan", x.best(-1), NONE);
        x.back(0);
        due(25, "plans are new again", x.best(-1), 10);
        x.back(1);
        due(25, "undo", x.undo(), 2);
        due(25, "image 0 is as it was", x.back(0), 17);
        due(25, "undo", x.undo(), 1);
        due(24, "kept over", x.keep(0), 16);
        due(25, "kept over", x.back(0), 16);
        BoatLeggers y = told("w1 3;w1 9;");
        for (int i = 0; i < 12; i++) {
            y.rests(1);
        }
        y.keep(0);
        y.rests(1);
        y.rests(1);
        y.back(0);
        due(25, "ten are known", y.count(5), 10);
        for (int i = 9; i >= 0; i--) {
            y.undo();
            due(25, "undone to", y.now(1), 2 + i);
        }
    }

    private static void counts() {
        BoatLeggers x = told("w1 3;w1 9;w1 9;t4 2 0 1;t2 2 1 0;c 7;h 55;");
        write(x, "abc");
        x.rests(1);
        x.rests(1);
        x.saw(0, 1);
        int[] want = {3, 2, 7, 55, 1, 2, 3};
        for (int i = 0; i < want.length; i++) {
            due(26, "count(" + i + ")", x.count(i), want[i]);
        }
        due(26, "-1", x.count(-1), BAD);
        due(26, "7", x.count(7), BAD);
    }
}
