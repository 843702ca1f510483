/** The sentences of the document that name an edge of what was seen, of kinds and of images: promises 19 to 27. */
public final class EdgeSeenTests {
    private static final int BAD = Edges.BAD, STATE = Edges.STATE, FULL = Edges.FULL, NONE = Edges.NONE, NO = Edges.NO;

    private static void due(String what, long got, long want) {
        Edges.due(what, got, want);
    }

    /** Each furlong of breadth 10 takes a pair that is not worn 4 minutes. */
    private static Boat strong(int walkers, String tunnel) {
        return Boat.told("w5 40;".repeat(walkers) + tunnel);
    }

    private static Boat busy() {
        Boat x = Boat.told("w3 4;w5 9;w2 30;t3 9 0 1;t5 7 1 0;t2 3 0 1;c2;h60;").walk(1);
        x.keep(0);
        x.rests(2);
        x.keep(1);
        x.walk(12);
        x.saw(0, 18);
        x.mark(3, 1);
        return x.write("w1 1;");
    }

    public static void main(String[] args) {
        seen();
        fits();
        marks();
        images();
        Edges.test("0 WALKERS, 1 STRETCHES, 2 CHANGE, 3 HOURS (0: always free), 4 SEEN, 5 how many may be UNDONE, 6 bytes of THE TEXT. "
            + "BAD.", EdgeSeenTests::counts);
        Edges.test("THE TRACE.", EdgeSeenTests::trace);
        Edges.test("An object is used for at most 512 calls after it has been made", EdgeSeenTests::allCalls);
        Edges.end();
    }

    // ---- SEEN

    private static void seen() {
        Edges.test("SEEN (6 at most)", EdgeSeenTests::sixSeen);
        Edges.test("under the SHAFT of a STRETCH in a MINUTE (0 .. 9999)", EdgeSeenTests::seenWhen);
        Edges.test("SEEN: how much there is. BAD (no SHAFT there, too); FULL.", EdgeSeenTests::saw);
        Edges.test("Nothing was SEEN: how much there was.", EdgeSeenTests::forget);
    }

    private static void sixSeen() {
        Boat x = strong(2, "t1 10 0 1;".repeat(6));
        for (int i = 0; i < 6; i++) {
            due("seen " + i, x.saw(i, 4 * (i + 1)), i + 1);
        }
        due("all of it fits", x.fits(-1), 1);
        due("a seventh", x.saw(0, 4), FULL);
        due("six", x.count(4), 6);
        due("forgotten", x.forget(), 6);
        due("room again", x.saw(0, 4), 1);
        Boat again = strong(2, "t1 10 0 1;");
        for (int i = 1; i <= 6; i++) {
            due("the same again", again.saw(0, 4), i);
        }
        due("a seventh", again.saw(0, 4), FULL);
        due("all of it fits", again.fits(-1), 1);
    }

    private static void seenWhen() {
        due("least", strong(2, "t1 10 0 1;").saw(0, 0), 1);
        due("greatest", strong(2, "t1 10 0 1;").saw(0, 9999), 1);
        int[] bad = {-1, 10000, Edges.LEAST, Edges.GREATEST};
        for (int minute : bad) {
            Edges.refused("minute " + minute, EdgeSeenTests::busy, x -> x.saw(0, minute), BAD);
        }
        Boat x = strong(2, "t1 10 0 1;");
        x.saw(0, 0);
        due("nobody is there in minute 0", x.fits(-1), 0);
        x.forget();
        x.saw(0, 9999);
        due("nor in minute 9999", x.fits(-1), 0);
    }

    private static Boat full() {
        Boat x = Boat.told("w3 4;w5 9;w2 30;t3 9 0 1;t5 7 1 0;t2 3 0 1;");
        for (int i = 0; i < 6; i++) {
            x.saw(i % 2 * 2, 18);
        }
        return x;
    }

    private static void saw() {
        int[] bad = {-1, 1, 3, 5, 6, Edges.LEAST, Edges.GREATEST};
        for (int t : bad) {
            Edges.refused("no shaft: " + t, EdgeSeenTests::busy, x -> x.saw(t, 18), BAD);
            Edges.refused("BAD goes ahead of FULL: " + t, EdgeSeenTests::full, x -> x.saw(t, 18), BAD);
        }
        Edges.refused("BAD goes ahead of FULL: 10000", EdgeSeenTests::full, x -> x.saw(0, 10000), BAD);
        Edges.refused("BAD goes ahead of FULL: -1", EdgeSeenTests::full, x -> x.saw(0, -1), BAD);
        Edges.refused("FULL", EdgeSeenTests::full, x -> x.saw(0, 20), FULL);
        due("the sixth stretch", strong(2, "t1 10 0 0;".repeat(5) + "t1 10 0 1;").saw(5, 24), 1);
        due("nobody need be there", Boat.told("t1 10 0 1;").saw(0, 24), 1);
    }

    private static void forget() {
        due("nothing", new Boat().forget(), 0);
        due("six", full().forget(), 6);
        Boat x = full();
        due("asked ahead of it", x.fits(-1), 0);
        x.forget();
        due("nothing then", x.forget(), 0);
        due("nothing then", x.count(4), 0);
        due("all rows fit again", x.fits(-1), 27);
        Edges.changesNothing("but what was seen", () -> {
            Boat y = busy();
            y.forget();
            return y;
        }, Boat::forget);
    }

    // ---- FITS

    private static void fits() {
        Edges.test("rows of PAIRS for all STRETCHES from the beginning on (nobody TIRED, MINUTE 0, no rests, no backing)",
            EdgeSeenTests::fromTheBeginning);
        Edges.test("by which one was at the end of those STRETCHES in these MINUTES: how many", EdgeSeenTests::howMany);
        Edges.test("the PAIR on a STRETCH in the first", EdgeSeenTests::theFirst);
        Edges.test("WALKERS who are on it in each (bits; 0: there are none)", EdgeSeenTests::sure);
        Edges.test("FITS: how many (t = -1), the PAIR on a STRETCH in the first; NONE. BAD.", EdgeSeenTests::fitsBounds);
        Edges.test("FITS: WALKERS who are on a STRETCH in each, as bits. BAD.", EdgeSeenTests::surelyBounds);
    }

    private static void fromTheBeginning() {
        Boat x = Boat.told("w5 1;w5 1;t2 10 0 1;t1 10 0 1;");
        x.saw(0, 8);
        x.saw(1, 18);
        due("at first", x.fits(-1), 1);
        x.rests(9);
        due("rested", x.fits(-1), 1);
        x.walk(1);
        due("walked, tired", x.fits(-1), 1);
        x.backs();
        due("backed", x.fits(-1), 1);
        x.saw(1, 27);
        due("a rest on the way fits nothing", x.fits(-1), 0);
        Boat fresh = Boat.told("w5 1;w5 1;t2 10 0 1;t1 10 0 1;");
        fresh.saw(1, 12);
        due("they are worn on the second", fresh.fits(-1), 0);
        Boat change = strong(4, "t1 10 0 1;c9;").walk(23);
        change.saw(0, 4);
        due("no change at first, whoever walked", change.fits(-1), 6);
        change.forget();
        change.saw(0, 13);
        due("no change at first, whoever walked", change.fits(-1), 0);
    }

    private static void howMany() {
        due("the most", strong(4, "t1 10 0 1;".repeat(6)).fits(-1), 46656);
        due("of nothing", strong(4, "").fits(-1), 1);
        due("of nothing, nobody", new Boat().fits(-1), 1);
        due("by nobody", Boat.told("t1 10 0 1;").fits(-1), 0);
        due("by one", strong(1, "t1 10 0 1;").fits(-1), 0);
        due("by two", strong(2, "t1 10 0 1;").fits(-1), 1);
        // 24, and one for each change: n changes at 5 places, six pairs, five others each time
        int[] minutes = {23, 24, 25, 26, 28, 29, 30};
        int[] rows = {0, 6, 6 * 5 * 5, 6 * 10 * 25, 6 * 5 * 625, 6 * 3125, 0};
        for (int i = 0; i < minutes.length; i++) {
            Boat x = strong(4, "t1 10 0 0;".repeat(5) + "t1 10 0 1;");
            x.saw(5, minutes[i]);
            due("through in " + minutes[i], x.fits(-1), rows[i]);
        }
        Boat first = strong(4, "t1 10 0 1;".repeat(6));
        first.saw(0, 4);
        due("the first in 4: all rows", first.fits(-1), 46656);
        first.saw(1, 8);
        due("no change to the second", first.fits(-1), 6 * 1296);
        first.saw(1, 8);
        due("seen twice", first.fits(-1), 6 * 1296);
        first.saw(3, 18);
        due("two changes then", first.fits(-1), 6 * 25 * 36);
        first.saw(1, 9);
        due("in two minutes at once", first.fits(-1), 0);
        slowestAndQuickest();
    }

    /** Rows at either end of what a row can take. */
    private static void slowestAndQuickest() {
        Boat worn = Boat.told("w5 1;w5 1;t2 10 0 0;t3 10 0 1;");
        worn.saw(1, 8 + 30);
        due("both worn", worn.fits(-1), 1);
        // 20, then 9 + 14 by one of them and another, then all are worn: 9 + 10 by another pair
        Boat changes = Boat.told("w5 1;w5 1;w5 1;t5 10 0 0;t2 10 0 0;t1 10 0 1;c9;");
        changes.saw(2, 20 + 23 + 19);
        due("both worn, and a change", changes.fits(-1), 12);
        Boat quick = Boat.told("w1 40;w9 40;w9 40;t1 18 0 0;t9 10 0 1;c0;");
        quick.saw(1, 40);
        due("12 and then 01 or 02", quick.fits(-1), 2);
        due("12 and then 01", quick.fits(0), 12);
        due("12 and then 01", quick.fits(1), 1);
        Boat longLast = strong(2, "t1 10 0 0;t1 10 0 1;t9 10 0 0;");
        longLast.saw(1, 8);
        due("a long one behind the shaft", longLast.fits(-1), 1);
    }

    private static void theFirst() {
        Boat x = strong(4, "t1 10 0 1;t1 10 0 0;t1 10 0 1;");
        due("nothing seen", x.fits(0), 1);
        due("nothing seen", x.fits(2), 1);
        x.saw(2, 13);
        due("one change: 01, 01, 02", x.fits(0), 1);
        due("one change: 01, 01, 02", x.fits(1), 1);
        due("one change: 01, 01, 02", x.fits(2), 2);
        x.saw(0, 5);
        due("none", x.fits(0), NONE);
        due("none", x.fits(2), NONE);
        Boat last = Boat.told("w9 40;w9 40;w1 40;w1 40;t1 2 0 1;");
        last.saw(0, 4);
        due("the greatest pair", last.fits(0), 23);
        due("nobody", Boat.told("t1 2 0 1;").fits(0), NONE);
    }

    private static void sure() {
        // breadth 18: 01 takes 4, all others 6
        Boat three = Boat.told("w9 40;w9 40;w1 40;t1 18 0 1;t1 18 0 0;");
        due("nothing seen", three.surely(0), 0);
        three.saw(0, 4);
        due("0 and 1", three.surely(0), 3);
        due("anybody on the next", three.surely(1), 0);
        three.forget();
        three.saw(0, 6);
        due("2 with one of them", three.surely(0), 4);
        three.saw(0, 4);
        due("there are none", three.surely(0), 0);
        due("there are none", three.surely(1), 0);
        Boat four = Boat.told("w9 40;w9 40;w1 40;w1 40;t1 18 0 1;");
        four.saw(0, 6);
        due("somebody else each time", four.surely(0), 0);
        Boat last = Boat.told("w9 40;w9 40;w1 40;w1 40;t1 2 0 1;");
        last.saw(0, 4);
        due("2 and 3", last.surely(0), 12);
        due("two walkers", strong(2, "t1 10 0 0;").surely(0), 3);
        due("two walkers, the sixth", strong(2, "t1 10 0 0;".repeat(6)).surely(5), 3);
        due("one walker", strong(1, "t1 10 0 0;").surely(0), 0);
        due("nobody", Boat.told("t1 10 0 0;").surely(0), 0);
    }

    private static void fitsBounds() {
        Boat x = strong(2, "t1 10 0 1;t1 10 0 1;");
        due("the last", x.fits(1), 1);
        int[] bad = {-2, 2, 5, 6, Edges.LEAST, Edges.GREATEST};
        for (int t : bad) {
            due("fits(" + t + ")", x.fits(t), BAD);
            Edges.refused("fits(" + t + ")", () -> strong(2, "t1 10 0 1;t1 10 0 1;"), y -> y.fits(t), BAD);
        }
        x.saw(0, 1);
        due("BAD goes ahead of NONE", x.fits(2), BAD);
        due("NONE", x.fits(1), NONE);
        due("no stretch", new Boat().fits(0), BAD);
        due("the sixth of six", strong(2, "t1 10 0 1;".repeat(6)).fits(5), 1);
        due("a seventh", strong(2, "t1 10 0 1;".repeat(6)).fits(6), BAD);
        Edges.changesNothing("fits", EdgeSeenTests::busy, y -> y.fits(-1));
    }

    private static void surelyBounds() {
        Boat x = strong(2, "t1 10 0 1;t1 10 0 1;");
        due("the first", x.surely(0), 3);
        due("the last", x.surely(1), 3);
        int[] bad = {-2, -1, 2, 5, 6, Edges.LEAST, Edges.GREATEST};
        for (int t : bad) {
            due("surely(" + t + ")", x.surely(t), BAD);
        }
        due("no stretch", new Boat().surely(0), BAD);
        due("a seventh", strong(2, "t1 10 0 1;".repeat(6)).surely(6), BAD);
        Edges.changesNothing("surely", EdgeSeenTests::busy, y -> y.surely(0));
    }

    // ---- KINDS

    private static void marks() {
        Edges.test("STEP its LENGTH (1). FIRM up, and its BREADTH (10). SLIMY up less how much all WALKERS are TIRED together (100). "
            + "STRETCHED up times 2 (1000). CRAMPED up, and how many SHAFTS there are (10000). BLIND up, and the MINUTE (100000).",
            EdgeSeenTests::kinds);
        Edges.test("MARK. NO: BAD.", EdgeSeenTests::markBounds);
        Edges.test("What none is, where a number may be below 0.", EdgeSeenTests::belowNothing);
    }

    private static void kinds() {
        Boat least = Boat.told("t1 2 0 0;");
        int[] small = {1, 3, 1, 6, 1, 1};
        for (int kind = 0; kind < 6; kind++) {
            due("the least, kind " + kind, least.mark(kind, 0), small[kind]);
        }
        // 12 times 9 furlongs: two are as tired as can be; 9 * 4 in, 9 * 8 back while not worn
        Boat most = strong(2, "t9 18 1 1;".repeat(6));
        for (int i = 0; i < 6; i++) {
            most.walk(1).backs();
        }
        most.restTill(most.now(1) + 1);
        int[] great = {9, 27, 9 - 2 * 98, 54, 9 - 2 * 98 + 6, 9 + most.now(1)};
        for (int kind = 0; kind < 6; kind++) {
            due("the most, kind " + kind, most.mark(kind, 5), great[kind]);
        }
        Boat late = Boat.told("t9 2 0 0;").restTill(9999);
        due("the last minute", late.mark(5, 0), 10008);
        // each stretch as if of any kind, slimy or not
        Boat dry = strong(3, "t5 11 0 1;t7 3 1 0;").walk(1);
        due("a slimy one as FIRM", dry.mark(1, 1), 10);
        due("a dry one as SLIMY", dry.mark(2, 0), 5 - 10);
        due("a dry one as CRAMPED", dry.mark(4, 0), 5 - 10 + 1);
        due("as BLIND", dry.mark(5, 1), 7 + 30);
    }

    private static void markBounds() {
        int[][] bad = {{-1, 0}, {6, 0}, {0, -1}, {0, 3}, {5, 3}, {0, 6}, {6, 3}, {Edges.LEAST, 0}, {Edges.GREATEST, 0},
            {0, Edges.LEAST}, {0, Edges.GREATEST}};
        for (int[] b : bad) {
            Edges.refused("mark(" + b[0] + ", " + b[1] + ")", EdgeSeenTests::busy, x -> x.mark(b[0], b[1]), NO);
        }
        due("the last kind of the last stretch", strong(2, "t1 10 0 0;".repeat(6)).mark(5, 5), 1);
        due("no stretch", new Boat().mark(0, 0), NO);
    }

    private static void belowNothing() {
        int[] lengths = {1, 2, 3, 9};
        for (int length : lengths) {
            Boat x = strong(2, "t" + length + " 10 0 0;").walk(1);
            due("below 0, and no refusal: " + length, x.mark(2, 0), -length);
            due("below 0, and no refusal: " + length, x.mark(4, 0), -length);
        }
    }

    // ---- IMAGES

    private static void images() {
        Edges.test("IMAGES 0, 1 keep NOW (STRETCHES gone, the MINUTE, TIRED, the PAIR, what may be UNDONE); nothing else.",
            EdgeSeenTests::whatIsKept);
        Edges.test("IMAGES are gone.", EdgeSeenTests::imagesAreGone);
        Edges.test("An IMAGE is kept: the MINUTE. BAD.", EdgeSeenTests::keep);
        Edges.test("All of that becomes as an IMAGE has it: the MINUTE. BAD; STATE: none was kept.", EdgeSeenTests::back);
    }

    private static void whatIsKept() {
        Boat x = strong(3, "t2 10 0 1;t3 10 0 1;").walk(12);
        x.rests(1);
        due("the minute", x.keep(1), 9);
        x.walk(1);
        x.saw(0, 8);
        x.mark(0, 0);
        x.write("ww");
        due("back", x.back(1), 9);
        due("gone", x.now(0), 1);
        due("minute", x.now(1), 9);
        due("pair", x.now(2), 12);
        int[] tired = {0, 1, 1};
        for (int w = 0; w < 3; w++) {
            due("tired " + w, x.walker(w, 2), tired[w]);
        }
        due("what may be undone", x.count(5), 2);
        due("seen is not kept", x.count(4), 1);
        due("the trace is not kept", x.trace(), 1);
        due("the text is not kept", x.count(6), 2);
        due("undone", x.undo(), 1);
        due("the rest is undone", x.now(1), 8);
        due("the image stays as it was", x.back(1), 9);
        due("the image stays as it was", x.count(5), 2);
        x.forget();
        due("seen is not brought back", x.back(1) + x.count(4), 9);
        Boat ten = new Boat();
        for (int i = 0; i < 12; i++) {
            ten.rests(1);
        }
        ten.keep(0);
        ten.undo();
        ten.rests(50);
        ten.rests(50);
        ten.back(0);
        for (int i = 9; i >= 0; i--) {
            due("ten to be undone", ten.undo(), i);
            due("minute", ten.now(1), i + 2);
        }
        due("and no more", ten.undo(), STATE);
    }

    private static void imagesAreGone() {
        Boat x = strong(2, "t1 10 0 0;");
        x.keep(0);
        x.keep(1);
        due("a faulty text leaves them", x.write("$").tunnel(), -10);
        due("a faulty text leaves them", x.back(0), 0);
        due("a faulty text leaves them", x.back(1), 0);
        x.clear();
        due("an empty one does not", x.tunnel(), 0);
        due("0 is gone", x.back(0), STATE);
        due("1 is gone", x.back(1), STATE);
        due("kept anew", x.keep(1), 0);
        due("kept anew", x.back(1), 0);
        due("the other is still gone", x.back(0), STATE);
    }

    private static void keep() {
        due("image 0", new Boat().restTill(5).keep(0), 5);
        due("image 1", new Boat().restTill(9999).keep(1), 9999);
        int[] bad = {-1, 2, Edges.LEAST, Edges.GREATEST};
        for (int image : bad) {
            Edges.refused("keep(" + image + ")", EdgeSeenTests::busy, x -> x.keep(image), BAD);
        }
        Edges.changesNothing("kept again", () -> {
            Boat x = busy();
            x.keep(0);
            return x;
        }, x -> x.keep(0));
        Boat over = new Boat();
        over.keep(0);
        over.rests(7);
        over.keep(1);
        over.rests(7);
        due("kept over", over.keep(0), 14);
        due("the other stays", over.back(1), 7);
        due("kept over", over.back(0), 14);
    }

    private static void back() {
        int[] bad = {-1, 2, Edges.LEAST, Edges.GREATEST};
        for (int image : bad) {
            Edges.refused("back(" + image + ")", EdgeSeenTests::busy, x -> x.back(image), BAD);
            due("BAD, and none was kept", new Boat().back(image), BAD);
        }
        for (int i = 0; i < 2; i++) {
            int image = i;
            Edges.refused("none was kept: " + image, () -> {
                Boat x = strong(3, "t2 10 0 1;t3 10 0 1;").walk(12);
                x.keep(1 - image);
                x.rests(5);
                return x;
            }, x -> x.back(image), STATE);
        }
        Boat x = strong(2, "t1 10 0 0;t2 10 0 0;");
        x.keep(0);
        x.walk(1, 1).keep(1);
        due("through", x.now(6), 1);
        due("to the beginning", x.back(0), 0);
        due("to the beginning", x.best(-1), 12);
        due("nothing to undo there", x.undo(), STATE);
        due("to the end", x.back(1), 12);
        due("to the end", x.best(-1), NONE);
        due("two to undo there", x.undo(), 1);
        Edges.changesNothing("back to where one is", () -> {
            Boat y = busy();
            y.keep(0);
            return y;
        }, y -> y.back(0));
    }

    // ---- count, trace

    private static void counts() {
        Boat x = Boat.told("w1 3;w1 9;w1 9;t4 2 0 1;t2 2 1 0;c7;h55;").write("abc");
        x.rests(1);
        x.rests(1);
        x.saw(0, 1);
        int[] want = {3, 2, 7, 55, 1, 2, 3};
        for (int what = 0; what < want.length; what++) {
            due("count(" + what + ")", x.count(what), want[what]);
        }
        due("always free", Boat.told("w1 1;").count(3), 0);
        int[] bad = {-1, 7, Edges.LEAST, Edges.GREATEST};
        for (int what : bad) {
            Edges.refused("count(" + what + ")", EdgeSeenTests::busy, y -> y.count(what), BAD);
        }
    }

    private static void trace() {
        Boat x = strong(2, "t2 10 0 1;t3 10 0 1;");
        due("at first", x.trace(), 0);
        long[] bodies = {1, 11, 101, 1011, 10101, 100001};
        long sum = 0;
        for (int kind = 0; kind < 6; kind++) {
            x.mark(kind, 1);
            sum += bodies[kind];
            due("kind " + kind, x.trace(), sum);
        }
        x.mark(6, 0);
        x.mark(0, 2);
        due("refused ones do not count", x.trace(), sum);
        x.keep(0);
        x.walk(1).mark(0, 0);
        x.undo();
        x.back(0);
        due("nothing takes it back", x.trace(), sum + 1);
        x.tunnel();
        due("nor does a new text", x.trace(), sum + 1);
    }

    private static void allCalls() {
        Boat marked = Boat.told("t2 10 0 1;");
        // eleven calls are made; the last of all asks
        for (int i = 12; i < 512; i++) {
            marked.mark(5, 0);
        }
        due("the 512th", marked.trace(), 500 * 100001L);
        Boat rested = new Boat();
        for (int i = 1; i <= 512; i++) {
            due("call " + i, rested.rests(1), i);
        }
    }
}
