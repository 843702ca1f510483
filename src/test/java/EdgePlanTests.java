/** The sentences of the document that name an edge of what comes: promises 13 to 18. */
public final class EdgePlanTests {
    private static final int BAD = Edges.BAD, NONE = Edges.NONE;

    private static void due(String what, long got, long want) {
        Edges.due(what, got, want);
    }

    /** Walkers of one strength; each furlong of breadth 10 takes a pair that is not worn 4 minutes. */
    private static Boat equal(int walkers, int strength, String tunnel) {
        return Boat.told(("w5 " + strength + ";").repeat(walkers) + tunnel);
    }

    private static Boat strong(int walkers, String tunnel) {
        return equal(walkers, 40, tunnel);
    }

    public static void main(String[] args) {
        best();
        fresh();
        hired();
        goIn();
        meets();
        odds();
        Edges.test("(From NOW on; nothing is changed.)", EdgePlanTests::nothingIsChanged);
        Edges.test("(From NOW on;", EdgePlanTests::fromNowOn);
        Edges.end();
    }

    private static Boat busy() {
        Boat x = Boat.told("w3 4;w5 9;w2 30;t3 9 0 1;t5 7 1 0;t2 3 0 1;c2;h60;").walk(1);
        x.keep(0);
        x.rests(2);
        x.keep(1);
        x.walk(12);
        x.saw(0, 18);
        x.mark(3, 1);
        return x.write("w1 1;");
    }

    private static void nothingIsChanged() {
        Edges.changesNothing("best", EdgePlanTests::busy, x -> x.best(-1));
        Edges.changesNothing("fresh", EdgePlanTests::busy, x -> x.fresh(2));
        Edges.changesNothing("hired", EdgePlanTests::busy, x -> x.hired(2, 9, 0));
        Edges.changesNothing("goIn", EdgePlanTests::busy, x -> x.goIn(2));
        Edges.changesNothing("meets", EdgePlanTests::busy, x -> x.meets(2, 3, 4, 1));
        Edges.changesNothing("odds", EdgePlanTests::busy, x -> x.odds(2, 3, 40, 0));
        Edges.refused("best", EdgePlanTests::busy, x -> x.best(6), BAD);
        Edges.refused("fresh", EdgePlanTests::busy, x -> x.fresh(6), BAD);
        Edges.refused("hired", EdgePlanTests::busy, x -> x.hired(1, 100, 0), BAD);
        Edges.refused("goIn", EdgePlanTests::busy, x -> x.goIn(10), BAD);
        Edges.refused("meets", EdgePlanTests::busy, x -> x.meets(1, 201, 1, 0), BAD);
        Edges.refused("odds", EdgePlanTests::busy, x -> x.odds(1, 11, 0, 0), BAD);
    }

    /** Each call that changes NOW, between two askings. */
    private static void fromNowOn() {
        Boat x = equal(2, 3, "t4 10 0 0;t2 10 0 0;h20;");
        asked("at first", x, 16 + 20, NONE);
        x.keep(0);
        x.walks(1);
        asked("walked", x, 20, NONE);
        x.rests(1);
        asked("rested", x, 8, 8);
        x.undo();
        asked("undone", x, 20, NONE);
        x.backs();
        asked("backed", x, 40 + 20, NONE);
        x.back(0);
        asked("back", x, 16 + 20, NONE);
        x.walk(1, 1);
        asked("through", x, NONE, NONE);
    }

    private static void asked(String what, Boat x, int best, int fresh) {
        due(what + ", best", x.best(-1), best);
        due(what + ", fresh", x.fresh(-1), fresh);
    }

    // ---- BEST

    private static void best() {
        Edges.test("by which one is THROUGH in the fewest MINUTES (CHANGES, too)", EdgePlanTests::bestWithChanges);
        Edges.test("of several the first (STRETCH by STRETCH the lesser PAIR)", EdgePlanTests::bestOfSeveral);
        Edges.test("NONE (fewer than two WALKERS, none to come)", EdgePlanTests::bestNone);
        Edges.test("BEST: MINUTES (i = -1), the PAIR on the i-th STRETCH (NONE: it is gone); NONE. BAD (i -1 .. 5).",
            EdgePlanTests::bestBounds);
    }

    private static void bestWithChanges() {
        // the same pair, worn: 8 + 10; others: 8 + change + 4
        int[] minutes = {12, 13, 14, 15, 16, 17, 18, 18, 18, 18};
        for (int change = 0; change <= 9; change++) {
            Boat x = equal(4, 1, "t2 10 0 0;t1 10 0 0;c" + change + ";");
            due("change " + change, x.best(-1), minutes[change]);
            due("change " + change + ", the first", x.best(0), 1);
            due("change " + change + ", the second", x.best(1), change < 6 ? 23 : 1);
        }
        Boat again = strong(4, "t1 10 0 0;t1 10 0 0;").walk(23);
        due("the pair of the latest one needs none", again.best(-1), 4);
        due("the pair of the latest one needs none", again.best(1), 23);
        again.backs();
        due("ahead of stretch 0, there was one", again.best(0), 23);
        due("ahead of stretch 0, there was one", again.best(-1), 8);
        Boat first = strong(4, "t1 10 0 0;t1 10 0 0;c9;");
        due("no change at first", first.best(-1), 8);
        // 01 01: 6 + 36; 12 01: 4 + 36, though 12 is slow on the second
        Boat later = Boat.told("w1 40;w9 40;w9 40;t1 18 0 0;t9 10 0 0;c0;");
        due("the quickest begins with the last pair", later.best(-1), 40);
        due("the quickest begins with the last pair", later.best(0), 12);
        due("and goes on with the first", later.best(1), 1);
        // 01 01: 6 + 36; 02 01: 4 + 36, and nobody else is quick on the second
        Boat alone = Boat.told("w1 40;w1 40;w9 40;t1 10 0 0;t9 2 0 0;c0;");
        due("the first pair is the quickest on the second", alone.best(-1), 40);
        due("the first pair is the quickest on the second", alone.best(0), 2);
        due("the first pair is the quickest on the second", alone.best(1), 1);
        Boat most = Boat.told("w1 1;w1 1;" + "t9 18 1 1;".repeat(6) + "c9;");
        due("two walkers, the dearest tunnel", most.best(-1), 63 + 5 * 117);
    }

    private static void bestOfSeveral() {
        Boat all = strong(4, "t1 10 0 0;".repeat(6) + "c0;");
        for (int i = 0; i < 6; i++) {
            due("all rows are alike: " + i, all.best(i), 1);
        }
        Boat free = strong(4, "t1 10 0 0;t1 10 0 0;c0;").walk(23);
        due("no change to pay: the lesser", free.best(1), 1);
        Boat pairs = equal(4, 1, "t2 10 0 0;t2 10 0 0;c0;");
        due("of 01 23, 02 13, 03 12 and back", pairs.best(0), 1);
        due("of 01 23, 02 13, 03 12 and back", pairs.best(1), 23);
        due("minutes", pairs.best(-1), 16);
        // 1 and 2 reach as far as 1 and 3; 0 reaches nothing
        Boat later = Boat.told("w1 40;w9 40;w9 40;w9 40;t1 18 0 0;t1 18 0 0;");
        due("12 ahead of 13 and 23", later.best(0), 12);
        due("12 ahead of 13 and 23", later.best(1), 12);
    }

    private static void bestNone() {
        due("nobody", Boat.told("t1 10 0 0;").best(-1), NONE);
        due("nobody", Boat.told("t1 10 0 0;").best(0), NONE);
        due("one", strong(1, "t1 10 0 0;").best(-1), NONE);
        due("one", strong(1, "t1 10 0 0;").best(0), NONE);
        due("two", strong(2, "t1 10 0 0;").best(-1), 4);
        due("two", strong(2, "t1 10 0 0;").best(0), 1);
        due("no stretches", strong(2, "").best(-1), NONE);
        due("no stretches", strong(2, "").best(0), NONE);
        Boat x = strong(2, "t1 10 0 0;").walk(1);
        due("through", x.best(-1), NONE);
        due("through", x.best(0), NONE);
        x.backs();
        due("to come again", x.best(-1), 4);
        due("to come again", x.best(0), 1);
    }

    private static void bestBounds() {
        Boat six = strong(2, "t1 10 0 0;".repeat(6));
        due("minutes", six.best(-1), 24);
        due("the last of six", six.best(5), 1);
        due("-2", six.best(-2), BAD);
        due("6", six.best(6), BAD);
        due("least", six.best(Edges.LEAST), BAD);
        due("greatest", six.best(Edges.GREATEST), BAD);
        due("gone", six.walk(1).best(0), NONE);
        due("to come", six.best(1), 1);
        Boat two = strong(2, "t1 10 0 0;t1 10 0 0;");
        due("no such stretch, but as told", two.best(2), NONE);
        due("no such stretch, but as told", two.best(5), NONE);
        due("BAD goes ahead of NONE", new Boat().best(6), BAD);
        due("BAD goes ahead of NONE", new Boat().best(-2), BAD);
        due("NONE", new Boat().best(5), NONE);
    }

    // ---- FRESH

    private static void fresh() {
        Edges.test("FRESH: likewise of rows by which nobody who walks is ever WORN as he begins.", EdgePlanTests::freshWorn);
        Edges.test("FRESH: MINUTES (i = -1), the PAIR on the i-th STRETCH (NONE: it is gone); NONE. BAD (i -1 .. 5).",
            EdgePlanTests::freshBounds);
    }

    private static void freshWorn() {
        due("as tired as strong", equal(2, 2, "t2 10 0 0;t2 10 0 0;").fresh(-1), 16);
        Boat above = equal(2, 2, "t3 10 0 0;t2 10 0 0;");
        due("above", above.fresh(-1), NONE);
        due("above", above.fresh(0), NONE);
        due("best does it worn", above.best(-1), 12 + 20);
        Boat rested = above.walk(1);
        due("worn now", rested.fresh(-1), NONE);
        rested.rests(1);
        due("not any more", rested.fresh(-1), 8);
        due("not any more", rested.fresh(1), 1);
        Boat others = equal(4, 1, "t3 10 0 0;t1 10 0 0;c9;");
        due("worn ones who do not walk do not count", others.fresh(-1), 12 + 9 + 4);
        due("worn ones who do not walk do not count", others.fresh(1), 23);
        due("best stays with them", others.best(-1), 12 + 10);
        due("one of the two is worn", equal(3, 1, "t3 10 0 0;t1 10 0 0;").fresh(-1), NONE);
        due("worn at the end only", equal(2, 1, "t9 10 0 0;").fresh(-1), 36);
        Boat several = equal(4, 40, "t1 10 0 0;".repeat(6) + "c0;");
        for (int i = 0; i < 6; i++) {
            due("of several the first: " + i, several.fresh(i), 1);
        }
        due("the change from now on", strong(4, "t1 10 0 0;t1 10 0 0;").walk(23).fresh(1), 23);
    }

    private static void freshBounds() {
        Boat six = strong(2, "t1 10 0 0;".repeat(6));
        due("minutes", six.fresh(-1), 24);
        due("the last of six", six.fresh(5), 1);
        due("-2", six.fresh(-2), BAD);
        due("6", six.fresh(6), BAD);
        due("least", six.fresh(Edges.LEAST), BAD);
        due("greatest", six.fresh(Edges.GREATEST), BAD);
        due("gone", six.walk(1).fresh(0), NONE);
        due("to come", six.fresh(1), 1);
        due("through", six.walk(1, 1, 1, 1, 1).fresh(-1), NONE);
        due("through", six.fresh(5), NONE);
        due("no such stretch, but as told", strong(2, "t1 10 0 0;").fresh(5), NONE);
        due("nobody", Boat.told("t1 10 0 0;").fresh(-1), NONE);
        due("one", strong(1, "t1 10 0 0;").fresh(0), NONE);
        due("no stretches", strong(2, "").fresh(-1), NONE);
        due("BAD goes ahead of NONE", new Boat().fresh(6), BAD);
        due("BAD goes ahead of NONE", new Boat().fresh(-2), BAD);
    }

    // ---- HIRED

    private static void hired() {
        Edges.test("HIRED for p (0 .. 99) pence", EdgePlanTests::hiredPence);
        Edges.test("hired men walk a STRETCH for as many pence as its LENGTH, in 3 MINUTES a furlong", EdgePlanTests::hiredCost);
        Edges.test("(no CHANGE counted on any STRETCH)", EdgePlanTests::hiredChange);
        Edges.test("all are less TIRED by its LENGTH (0 at least)", EdgePlanTests::hiredTired);
        Edges.test("the set of STRETCHES (bits) for p at most by which one is THROUGH in the fewest MINUTES, of several the least "
            + "pence, then the least bits (of STRETCHES to come alone)", EdgePlanTests::hiredSets);
        Edges.test("the set; the MINUTES (0, if THROUGH)", EdgePlanTests::hiredThrough);
        Edges.test("HIRED: the set (what = 0), MINUTES (1). BAD.", EdgePlanTests::hiredBounds);
    }

    private static void hiredPence() {
        Boat x = strong(2, "t1 10 0 0;");
        due("least", x.hired(1, 0, 0), 0);
        due("least", x.hired(1, 0, 1), 4);
        due("greatest", x.hired(1, 99, 0), 1);
        due("greatest", x.hired(1, 99, 1), 3);
        int[] bad = {-1, 100, Edges.LEAST, Edges.GREATEST};
        for (int p : bad) {
            due("p " + p, x.hired(1, p, 0), BAD);
            due("p " + p, x.hired(1, p, 1), BAD);
        }
    }

    private static void hiredCost() {
        Boat x = strong(2, "t9 11 1 0;");
        due("8 pence do not do", x.hired(1, 8, 0), 0);
        due("8 pence do not do", x.hired(1, 8, 1), 63);
        due("9 pence", x.hired(1, 9, 0), 1);
        due("9 pence, wide and slimy are nothing to them", x.hired(1, 9, 1), 27);
        Boat six = strong(2, "t9 10 0 0;".repeat(6));
        due("53 pence for five", six.hired(1, 53, 0), 31);
        due("53 pence for five", six.hired(1, 53, 1), 5 * 27 + 36);
        due("54 pence for all", six.hired(1, 54, 0), 63);
        due("54 pence for all", six.hired(1, 54, 1), 6 * 27);
        due("99 pence for all", six.hired(1, 99, 0), 63);
    }

    private static void hiredChange() {
        Boat x = strong(3, "t1 10 0 0;".repeat(3) + "c9;").walk(1);
        due("another pair, nobody hired", x.hired(2, 0, 1), 8);
        due("the same pair, nobody hired", x.hired(1, 0, 1), 8);
        due("hired on the first", x.hired(2, 1, 0), 2);
        due("hired on the first", x.hired(2, 1, 1), 7);
    }

    private static void hiredTired() {
        // hired on stretch 1: tired 3, 0 (not -1), 3: worn on the last, for 0 is as strong as 2
        Boat x = Boat.told("w5 2;w5 40;t3 10 0 0;t4 10 0 0;t3 10 0 0;t1 10 0 0;");
        due("0 at least", x.hired(1, 4, 0), 2);
        due("0 at least", x.hired(1, 4, 1), 12 + 12 + 12 + 7);
        // tired 3 now; hired on stretch 1 leaves 2, which is not worn
        Boat y = equal(2, 2, "t3 10 0 0;t1 10 0 0;t1 10 0 0;").walk(1);
        due("alone", y.hired(1, 0, 1), 10 + 10);
        due("less by the length", y.hired(1, 1, 0), 2);
        due("less by the length", y.hired(1, 1, 1), 3 + 4);
    }

    private static void hiredSets() {
        Boat pence = strong(2, "t2 10 0 0;t1 10 1 0;");
        due("each saves 2: the least pence", pence.hired(1, 2, 0), 2);
        due("each saves 2: the least pence", pence.hired(1, 2, 1), 11);
        due("p at most", pence.hired(1, 3, 0), 3);
        due("p at most", pence.hired(1, 3, 1), 9);
        due("least bits", strong(2, "t2 10 0 0;t2 10 0 0;").hired(1, 3, 0), 1);
        due("least bits: 3, not 4", strong(2, "t1 10 0 0;t1 10 0 0;t2 10 0 0;").hired(1, 2, 0), 3);
        due("least bits: 1, not 6", strong(2, "t2 10 0 0;t1 10 0 0;t1 10 0 0;").hired(1, 2, 0), 1);
        Boat gone = strong(2, "t1 10 0 0;t1 10 0 0;t1 10 0 0;").walk(1);
        due("to come alone", gone.hired(1, 99, 0), 6);
        due("to come alone, least bits", gone.hired(1, 1, 0), 2);
        due("the last one", gone.walk(1).hired(1, 99, 0), 4);
        Boat six = strong(2, "t1 10 0 0;".repeat(6)).walk(1, 1, 1, 1, 1);
        due("the sixth", six.hired(1, 1, 0), 32);
    }

    private static void hiredThrough() {
        Boat x = strong(2, "t1 10 0 0;").walk(1);
        due("through", x.hired(1, 99, 0), 0);
        due("through", x.hired(1, 99, 1), 0);
        due("no stretches", strong(2, "").hired(1, 99, 0), 0);
        due("no stretches", strong(2, "").hired(1, 99, 1), 0);
    }

    private static void hiredBounds() {
        Boat x = strong(2, "t1 10 0 0;");
        int[] bad = {-1, 2, Edges.LEAST, Edges.GREATEST};
        for (int what : bad) {
            due("what " + what, x.hired(1, 1, what), BAD);
        }
        due("no pair", x.hired(2, 1, 0), BAD);
        due("through and no pair", x.walk(1).hired(2, 1, 0), BAD);
        due("nobody", Boat.told("t1 10 0 0;").hired(1, 1, 0), BAD);
        due("one", strong(1, "t1 10 0 0;").hired(1, 1, 0), BAD);
    }

    // ---- GO IN

    private static void goIn() {
        Edges.test("GO IN, a PAIR that walks all to come (CHANGE, too)", EdgePlanTests::goInChange);
        Edges.test("the fewest MINUTES to wait (TIRED stay)", EdgePlanTests::goInTired);
        Edges.test("(one goes in in a MINUTE that is free, and is THROUGH by the first that is not)", EdgePlanTests::goInFree);
        Edges.test("0, if it is always free", EdgePlanTests::goInAlwaysFree);
        Edges.test("NONE (200 at most)", EdgePlanTests::goInNone);
        Edges.test("GO IN; NONE. BAD.", EdgePlanTests::goInBounds);
    }

    private static void goInChange() {
        Boat x = strong(3, "t1 10 0 0;t2 10 0 0;h12;c1;").walk(1);
        due("the same pair, 8 from 4", x.goIn(1), 0);
        due("a change, 9 from 4", x.goIn(2), 20);
        Boat first = strong(3, "t3 10 0 0;h12;c9;");
        due("no change at first", first.goIn(12), 0);
    }

    private static void goInTired() {
        Boat x = equal(2, 1, "t2 10 0 0;t2 10 0 0;h19;").walk(1);
        // worn: 20, in 19 it would never do; a rest of a minute would help, waiting does not
        due("waiting makes nobody less tired", x.goIn(1), NONE);
        x.rests(1);
        due("resting does", x.goIn(1), 0);
    }

    private static void goInFree() {
        Boat exact = strong(2, "t5 10 0 0;h20;");
        int[] at = {0, 1, 19, 20, 39, 40, 41};
        int[] waits = {0, 39, 21, 20, 1, 0, 39};
        for (int i = 0; i < at.length; i++) {
            due("20 of 20 at " + at[i], exact.restTill(at[i]).goIn(1), waits[i]);
        }
        Boat small = strong(2, "t1 10 0 0;h10;");
        int[] when = {0, 5, 6, 7, 9, 10, 19, 20, 26, 27};
        int[] wait = {0, 0, 0, 13, 11, 10, 1, 0, 0, 13};
        for (int i = 0; i < when.length; i++) {
            due("4 of 10 at " + when[i], small.restTill(when[i]).goIn(1), wait[i]);
        }
        Boat through = strong(2, "t1 10 0 0;h10;").walk(1);
        due("through: in a minute that is free", through.goIn(1), 0);
        due("through: in the last", through.restTill(9).goIn(1), 0);
        due("through: in one that is not", through.restTill(10).goIn(1), 10);
    }

    private static void goInAlwaysFree() {
        Boat x = equal(2, 1, "t9 18 1 0;".repeat(6));
        due("however long", x.goIn(1), 0);
        due("whenever", x.restTill(9999).goIn(1), 0);
        due("through", strong(2, "").goIn(1), 0);
    }

    private static void goInNone() {
        due("15 of 15", strong(2, "t3 10 1 0;h15;").goIn(1), 0);
        due("15 of 14", strong(2, "t3 10 1 0;h14;").goIn(1), NONE);
        Boat longest = strong(2, "t9 11 1 0;t9 10 0 0;h99;");
        due("99 of 99", longest.goIn(1), 0);
        due("the longest wait that can be", longest.restTill(1).goIn(1), 197);
        due("100 of 99", strong(2, "t9 11 1 0;t9 10 0 0;t1 10 0 0;h99;").goIn(1), NONE);
        due("at the end of time", longest.restTill(9999).goIn(1), 99);
    }

    private static void goInBounds() {
        Boat x = strong(2, "t9 10 0 0;h10;");
        due("NONE", x.goIn(1), NONE);
        int[] bad = {-1, 0, 2, 10, 11, 12, Edges.LEAST, Edges.GREATEST};
        for (int pair : bad) {
            due("BAD goes ahead of NONE: " + pair, x.goIn(pair), BAD);
            due("BAD, though always free: " + pair, strong(2, "t1 10 0 0;").goIn(pair), BAD);
        }
    }

    // ---- MEETS

    private static void meets() {
        Edges.test("a boat that comes in at the other end n (0 .. 200) MINUTES from now", EdgePlanTests::meetsN);
        Edges.test("k (1 .. 9) MINUTES a furlong", EdgePlanTests::meetsK);
        Edges.test("the STRETCH in which both are at once (the first of ours; from when one comes into it to when one leaves it, both "
            + "of these, too)", EdgePlanTests::meetsWhere);
        Edges.test("who must back: 0 we, 1 they: who came the fewer furlongs into the tunnel in whole STRETCHES (from where we are NOW "
            + "on; as many: they)", EdgePlanTests::meetsWho);
        Edges.test("MEETS: the STRETCH (what = 0), who must back (1); NONE. BAD.", EdgePlanTests::meetsBounds);
    }

    private static void meetsN() {
        Boat x = strong(2, "t1 10 0 0;");
        due("least", x.meets(1, 0, 1, 0), 0);
        due("greatest", x.meets(1, 200, 1, 0), NONE);
        int[] bad = {-1, 201, Edges.LEAST, Edges.GREATEST};
        for (int n : bad) {
            due("n " + n, x.meets(1, n, 1, 0), BAD);
        }
        // 36, 72, 108, 144, 180, and worn at last: 270
        Boat six = strong(2, "t9 10 0 0;".repeat(6));
        due("greatest, and we are still there", six.meets(1, 200, 1, 0), 5);
        due("they are in nothing yet", six.meets(1, 200, 1, 1), 1);
    }

    private static void meetsK() {
        Boat x = strong(2, "t2 10 0 0;t2 10 0 0;");
        // ours 0..8, 8..16; theirs 0..2k, 2k..4k
        for (int k = 1; k <= 9; k++) {
            due("k " + k, x.meets(1, 0, k, 0), k <= 4 ? 0 : 1);
        }
        int[] bad = {0, 10, -1, Edges.LEAST, Edges.GREATEST};
        for (int k : bad) {
            due("k " + k, x.meets(1, 0, k, 0), BAD);
        }
    }

    private static void meetsWhere() {
        // ours 0..8, 8..20, 20..36
        Boat x = strong(3, "t2 10 0 0;t3 10 0 0;t4 10 0 0;c5;");
        // theirs from the far end, k = 1: n..n+4, n+4..n+7, n+7..n+9
        due("they come into 0 as we leave it", x.meets(1, 1, 1, 0), 0);
        due("a minute later", x.meets(1, 2, 1, 0), 1);
        due("they come into 1 as we leave it", x.meets(1, 16, 1, 0), 1);
        due("a minute later", x.meets(1, 17, 1, 0), 2);
        due("they come into 2 as we leave it", x.meets(1, 36, 1, 0), 2);
        due("a minute later", x.meets(1, 37, 1, 0), NONE);
        due("a minute later", x.meets(1, 37, 1, 1), NONE);
        x.walks(1);
        // ours 0..12, 12..28, or by others 0..17, 17..33
        due("from now on", x.meets(1, 8, 1, 0), 1);
        due("from now on", x.meets(1, 9, 1, 0), 2);
        due("a change", x.meets(2, 13, 1, 0), 1);
        due("a change", x.meets(2, 14, 1, 0), 2);
        due("a change", x.meets(2, 33, 1, 0), 2);
        due("a change", x.meets(2, 34, 1, 0), NONE);
        Boat worn = equal(2, 1, "t2 10 0 0;t1 10 0 0;");
        due("worn on the second, 8..18", worn.meets(1, 18, 9, 0), 1);
        due("worn on the second, 8..18", worn.meets(1, 19, 9, 0), NONE);
    }

    private static void meetsWho() {
        int[] ahead = {1, 2, 3};
        int[] who = {0, 1, 1};
        for (int i = 0; i < ahead.length; i++) {
            Boat x = strong(2, "t" + ahead[i] + " 10 0 0;t9 10 0 0;t2 10 0 0;");
            due("in the middle", x.meets(1, 0, 9, 0), 1);
            due(ahead[i] + " furlongs to 2", x.meets(1, 0, 9, 1), who[i]);
        }
        due("none to none", strong(2, "t1 10 0 0;").meets(1, 0, 1, 1), 1);
        due("none to 2", strong(2, "t9 10 0 0;t2 10 0 0;").meets(1, 0, 1, 1), 0);
        Boat gone = strong(2, "t9 10 0 0;t3 10 0 0;t2 10 0 0;").walk(1);
        due("in the next", gone.meets(1, 0, 1, 0), 1);
        due("what is gone does not count", gone.meets(1, 0, 1, 1), 0);
        due("in the last", gone.meets(1, 13, 1, 0), 2);
        due("3 from now on to none", gone.meets(1, 13, 1, 1), 1);
    }

    private static void meetsBounds() {
        Boat x = strong(2, "t1 10 0 0;");
        int[] bad = {-1, 2, Edges.LEAST, Edges.GREATEST};
        for (int what : bad) {
            due("what " + what, x.meets(1, 0, 1, what), BAD);
        }
        due("no pair", x.meets(2, 0, 1, 0), BAD);
        x.walks(1);
        due("through", x.meets(1, 0, 1, 0), NONE);
        due("through", x.meets(1, 0, 1, 1), NONE);
        due("BAD goes ahead of NONE", x.meets(1, 201, 1, 0), BAD);
        due("BAD goes ahead of NONE", x.meets(1, 0, 10, 0), BAD);
        due("BAD goes ahead of NONE", x.meets(1, 0, 1, 2), BAD);
        due("BAD goes ahead of NONE", x.meets(2, 0, 1, 0), BAD);
        due("no stretches", strong(2, "").meets(1, 0, 9, 0), NONE);
    }

    // ---- ODDS

    private static void odds() {
        Edges.test("ODDS (a PAIR that walks all to come, x 0 .. 10, m 0 .. 9999)", EdgePlanTests::oddsNumbers);
        Edges.test("on each SLIMY STRETCH to come they slip by x in 10: 5 MINUTES more", EdgePlanTests::oddsSlips);
        Edges.test("that they are THROUGH in m MINUTES at most: a fraction.", EdgePlanTests::oddsAtMost);
        Edges.test("ODDS: upper (what = 0), lower number (1), in least terms. BAD.", EdgePlanTests::oddsBounds);
    }

    private static void fraction(String what, Boat x, int[] call, int upper, int lower) {
        due(what, x.odds(call[0], call[1], call[2], 0), upper);
        due(what + ", below", x.odds(call[0], call[1], call[2], 1), lower);
    }

    private static void oddsNumbers() {
        Boat x = strong(2, "t1 10 1 0;");
        fraction("x 0: never", x, new int[] {1, 0, 5}, 1, 1);
        fraction("x 10: always", x, new int[] {1, 10, 9}, 0, 1);
        fraction("x 10: always", x, new int[] {1, 10, 10}, 1, 1);
        fraction("x 1", x, new int[] {1, 1, 5}, 9, 10);
        fraction("x 9", x, new int[] {1, 9, 5}, 1, 10);
        fraction("m 0", x, new int[] {1, 5, 0}, 0, 1);
        fraction("m 9999", x, new int[] {1, 5, 9999}, 1, 1);
        int[] badX = {-1, 11, Edges.LEAST, Edges.GREATEST};
        for (int bad : badX) {
            due("x " + bad, x.odds(1, bad, 5, 0), BAD);
            due("x " + bad, x.odds(1, bad, 5, 1), BAD);
        }
        int[] badM = {-1, 10000, Edges.LEAST, Edges.GREATEST};
        for (int bad : badM) {
            due("m " + bad, x.odds(1, 5, bad, 0), BAD);
            due("m " + bad, x.odds(1, 5, bad, 1), BAD);
        }
    }

    private static void oddsSlips() {
        Boat dry = strong(2, "t1 10 0 0;t1 10 0 0;");
        fraction("nothing slimy", dry, new int[] {1, 9, 8}, 1, 1);
        fraction("nothing slimy", dry, new int[] {1, 9, 7}, 0, 1);
        Boat six = strong(2, "t1 10 1 0;".repeat(6));
        fraction("no slip in six", six, new int[] {1, 3, 30}, 117649, 1000000);
        fraction("five slips at most", six, new int[] {1, 3, 55}, 999271, 1000000);
        fraction("six slips", six, new int[] {1, 3, 60}, 1, 1);
        Boat two = strong(2, "t1 10 1 0;t1 10 0 0;t1 10 1 0;").walk(1);
        fraction("the one that is gone does not count", two, new int[] {1, 3, 9}, 7, 10);
        fraction("the one that is gone does not count", two, new int[] {1, 3, 14}, 1, 1);
        Boat change = strong(3, "t1 10 0 0;t1 10 1 0;c4;").walk(1);
        fraction("a change", change, new int[] {2, 3, 8}, 0, 1);
        fraction("a change", change, new int[] {2, 3, 9}, 7, 10);
        Boat through = two.walk(1, 1);
        fraction("through in no time", through, new int[] {1, 10, 0}, 1, 1);
        fraction("no stretches", strong(2, ""), new int[] {1, 10, 0}, 1, 1);
    }

    private static void oddsAtMost() {
        Boat x = strong(2, "t2 10 1 0;t2 10 0 0;t2 10 1 0;");
        int[] m = {27, 28, 32, 33, 37, 38, 39};
        int[] upper = {0, 49, 49, 91, 91, 1, 1};
        int[] lower = {1, 100, 100, 100, 100, 1, 1};
        for (int i = 0; i < m.length; i++) {
            fraction("28 and slips in " + m[i], x, new int[] {1, 3, m[i]}, upper[i], lower[i]);
        }
    }

    private static void oddsBounds() {
        Boat x = strong(2, "t1 10 1 0;t1 10 1 0;");
        fraction("25 of 100", x, new int[] {1, 5, 10}, 1, 4);
        fraction("75 of 100", x, new int[] {1, 5, 15}, 3, 4);
        fraction("64 of 100", x, new int[] {1, 2, 10}, 16, 25);
        fraction("96 of 100", x, new int[] {1, 2, 15}, 24, 25);
        int[] bad = {-1, 2, Edges.LEAST, Edges.GREATEST};
        for (int what : bad) {
            due("what " + what, x.odds(1, 5, 10, what), BAD);
        }
        due("no pair", x.odds(2, 5, 10, 0), BAD);
        due("through and no pair", x.walk(1, 1).odds(2, 5, 10, 0), BAD);
        due("nobody", Boat.told("t1 10 1 0;").odds(1, 5, 10, 0), BAD);
    }
}
