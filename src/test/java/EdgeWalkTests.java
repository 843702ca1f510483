import java.util.Set;

/** The sentences of the document that name an edge of PAIRS and of walking: promises 7 to 12. */
public final class EdgeWalkTests {
    private static final int BAD = Edges.BAD, STATE = Edges.STATE, NONE = Edges.NONE;
    private static final Set<Integer> PAIRS = Set.of(1, 2, 3, 12, 13, 23);

    private static void due(String what, long got, long want) {
        Edges.due(what, got, want);
    }

    /** Each furlong takes 4 minutes, if nobody is worn. */
    private static Boat plain(int walkers, String tunnel) {
        return Boat.told("w5 40;".repeat(walkers) + tunnel);
    }

    public static void main(String[] args) {
        pairsAndMinutes();
        moves();
        calls();
        refusals();
        Edges.end();
    }

    private static void pairsAndMinutes() {
        Edges.test("PAIRS are told as 10 times the lesser WALKER and the other one.", EdgeWalkTests::pairs);
        Edges.test("A PAIR on a STRETCH takes for each furlong 4 MINUTES", EdgeWalkTests::furlongs);
        Edges.test("2 more, if it is WIDE (BREADTH above both REACHES together)", EdgeWalkTests::wide);
        Edges.test("1 more, if it is NARROW (BREADTH below them less 4)", EdgeWalkTests::narrow);
        Edges.test("1 more, if it is SLIMY", EdgeWalkTests::slimy);
        Edges.test("3 more for each of the two who is WORN (TIRED above his STRENGTH)", EdgeWalkTests::worn);
        Edges.test("WORN (TIRED above his STRENGTH) as they begin it", EdgeWalkTests::wornAsTheyBegin);
    }

    private static void pairs() {
        for (int walkers = 0; walkers <= 4; walkers++) {
            Boat x = plain(walkers, "t1 10 0 0;");
            for (int pair = -45; pair <= 145; pair++) {
                boolean there = PAIRS.contains(pair) && pair % 10 < walkers;
                due(walkers + " walkers, takes(0, " + pair + ")", x.takes(0, pair), there ? 4 : BAD);
            }
        }
        int[] numbers = {-45, -12, -1, 0, 1, 2, 3, 4, 9, 10, 11, 12, 13, 14, 20, 21, 22, 23, 24, 30, 31, 32, 33, 34, 101, 112,
            Edges.LEAST, Edges.LEAST + 1, Edges.GREATEST};
        for (int walkers = 0; walkers <= 4; walkers++) {
            Boat x = plain(walkers, "");
            for (int pair : numbers) {
                boolean there = PAIRS.contains(pair) && pair % 10 < walkers;
                String what = walkers + " walkers, pair " + pair;
                due(what + " walks", x.walks(pair), there ? STATE : BAD);
                due(what + " hired", x.hired(pair, 0, 0), there ? 0 : BAD);
                due(what + " goes in", x.goIn(pair), there ? 0 : BAD);
                due(what + " meets", x.meets(pair, 0, 1, 0), there ? NONE : BAD);
                due(what + " odds", x.odds(pair, 0, 0, 1), there ? 1 : BAD);
            }
        }
    }

    private static void furlongs() {
        due("one", plain(2, "t1 10 0 0;").takes(0, 1), 4);
        due("nine", plain(2, "t9 10 0 0;").takes(0, 1), 36);
        due("walked", plain(2, "t9 10 0 0;").walks(1), 36);
    }

    private static void wide() {
        Boat x = Boat.told("w3 40;w4 40;w1 40;w1 40;t2 7 0 0;t2 8 0 0;t2 2 0 0;t2 3 0 0;t2 18 0 0;");
        due("as broad as both", x.takes(0, 1), 8);
        due("above", x.takes(1, 1), 12);
        due("least reaches, as broad", x.takes(2, 23), 8);
        due("least reaches, above", x.takes(3, 23), 12);
        due("far above is no dearer", x.takes(4, 23), 12);
        due("greatest reaches", Boat.told("w9 40;w9 40;t2 18 0 0;").takes(0, 1), 8);
        due("one less", Boat.told("w9 40;w8 40;t2 18 0 0;").takes(0, 1), 12);
    }

    private static void narrow() {
        Boat x = Boat.told("w3 40;w4 40;w9 40;w9 40;t2 3 0 0;t2 2 0 0;t2 14 0 0;t2 13 0 0;");
        due("as broad as both less 4", x.takes(0, 1), 8);
        due("below", x.takes(1, 1), 10);
        due("greatest reaches, as broad", x.takes(2, 23), 8);
        due("greatest reaches, below", x.takes(3, 23), 10);
        due("far below is no dearer", x.takes(1, 23), 10);
        due("reaches of 6 are never too much", Boat.told("w3 40;w3 40;t2 2 0 0;").takes(0, 1), 8);
    }

    private static void slimy() {
        Boat x = Boat.told("w3 40;w4 40;t2 7 1 0;t2 8 1 0;t2 2 1 0;t2 7 0 0;");
        due("slimy", x.takes(0, 1), 10);
        due("and wide", x.takes(1, 1), 14);
        due("and narrow", x.takes(2, 1), 12);
        due("not", x.takes(3, 1), 8);
    }

    private static void worn() {
        Boat x = Boat.told("w5 4;w5 3;w5 2;t4 10 0 0;t2 10 0 0;").walk(1);
        due("as tired as strong is not worn", x.walker(0, 3), 0);
        due("above is worn", x.walker(1, 3), 1);
        due("one of two", x.takes(1, 1), 14);
        due("as tired as strong, and not tired", x.takes(1, 2), 8);
        Boat both = Boat.told("w5 3;w5 1;t4 10 0 0;t2 10 0 0;").walk(1);
        due("both", both.takes(1, 1), 20);
        both.rests(1);
        due("by a minute of rest one of them is not any more", both.takes(1, 1), 14);
        Boat most = Boat.told("w1 1;w1 1;t9 18 1 0;").walk(1);
        due("wide, slimy and both worn", most.takes(0, 1), 117);
        Boat strongest = Boat.told("w5 40;w5 39;t8 10 0 0;");
        for (int i = 0; i < 5; i++) {
            due("not yet", strongest.takes(0, 1), 32);
            due("one move", i % 2 == 0 ? strongest.walks(1) : strongest.backs(), i % 2 == 0 ? 32 : 64);
        }
        due("40 of 40", strongest.walker(0, 3), 0);
        due("40 of 39", strongest.walker(1, 3), 1);
        due("bits", strongest.now(3), 2);
    }

    private static void wornAsTheyBegin() {
        Boat x = Boat.told("w5 1;w5 1;t9 10 0 0;t9 10 0 0;");
        due("worn on the way is no dearer", x.walks(1), 36);
        due("worn as they begin", x.walks(1), 90);
    }

    private static void moves() {
        Edges.test("The boat is AHEAD of STRETCH 0 at first (THROUGH behind all of them), MINUTE 0, nobody TIRED (0), no PAIR.",
            EdgeWalkTests::atFirst);
        Edges.test("CHANGE first, if it is not the PAIR of the latest one (there was one).", EdgeWalkTests::change);
        Edges.test("Then both are as much more TIRED as its LENGTH (99 at most)", EdgeWalkTests::mostTired);
        Edges.test("all others less (0 at least).", EdgeWalkTests::leastTired);
        Edges.test("BACKED: the latest STRETCH the other way, by the PAIR of the latest one, in twice the MINUTES that they would "
            + "take for it (as they are now)", EdgeWalkTests::backed);
        Edges.test("both as much more TIRED, all others less.", EdgeWalkTests::backedTired);
        Edges.test("RESTED: a MINUTE; all are 1 less TIRED (0 at least).", EdgeWalkTests::rested);
        Edges.test("MINUTES 9999 at most.", EdgeWalkTests::lastMinute);
        Edges.test("UNDONE: the latest WALKED, BACKED, RESTED (10 are known, older ones are lost): all is as ahead of it.",
            EdgeWalkTests::undone);
    }

    private static void atFirst() {
        Boat x = plain(4, "t1 10 0 0;t2 10 0 0;");
        int[] nows = {0, 0, NONE, 0, 1, 3, 0};
        for (int what = 0; what < nows.length; what++) {
            due("now(" + what + ")", x.now(what), nows[what]);
        }
        for (int w = 0; w < 4; w++) {
            due("tired " + w, x.walker(w, 2), 0);
        }
        due("between", x.walk(1).now(6), 0);
        due("behind all", x.walk(1).now(6), 1);
        due("behind all", x.now(0), 2);
        due("without stretches", plain(2, "").now(6), 1);
        due("without anybody", Boat.told("t1 2 0 0;").now(6), 0);
    }

    private static void change() {
        String tunnel = "t1 10 0 0;".repeat(6) + "c5;";
        Boat x = plain(4, tunnel);
        due("none at first", x.walks(12), 4);
        due("the same", x.walks(12), 4);
        due("one of them another", x.walks(13), 9);
        due("both others", x.walks(2), 9);
        due("a rest", x.rests(1), 27);
        due("the same behind a rest", x.walks(2), 4);
        x.rests(1);
        due("another behind a rest", x.walks(3), 9);
        Boat backed = plain(4, tunnel).walk(1, 2);
        due("backing costs none", backed.backs(), 8);
        due("the same behind backing", backed.walks(2), 4);
        backed.backs();
        backed.backs();
        due("ahead of stretch 0", backed.now(0), 0);
        due("there was one", backed.now(2), 2);
        due("another ahead of stretch 0, but there was one", backed.walks(1), 9);
        Boat undone = plain(4, tunnel).walk(1);
        undone.undo();
        due("none is known any more", undone.walks(23), 4);
        Boat kept = plain(4, tunnel);
        kept.keep(0);
        kept.walk(1).back(0);
        due("none is known to the image", kept.walks(23), 4);
        due("refused ones count for nothing", kept.walks(32), BAD);
        due("the same", kept.walks(23), 4);
    }

    private static void mostTired() {
        Boat nines = plain(2, "t9 10 0 0;");
        for (int i = 1; i <= 12; i++) {
            due("move " + i, i % 2 == 1 ? Math.min(1, nines.walks(1)) : Math.min(1, nines.backs()), 1);
            due("tired by " + i + " times 9", nines.walker(0, 2), Math.min(99, 9 * i));
            due("the other, too", nines.walker(1, 2), Math.min(99, 9 * i));
        }
        Boat sevens = plain(2, "t7 10 0 0;");
        for (int i = 0; i < 7; i++) {
            sevens.walk(1).backs();
        }
        due("98", sevens.walker(0, 2), 98);
        due("99, not 105", sevens.walk(1).walker(0, 2), 99);
        sevens.undo();
        due("98 again", sevens.walker(0, 2), 98);
        sevens.walk(1).rests(1);
        due("98 by a rest", sevens.walker(1, 2), 98);
    }

    private static void leastTired() {
        int[] next = {4, 5, 6};
        int[] left = {1, 0, 0};
        for (int i = 0; i < next.length; i++) {
            Boat x = plain(3, "t5 10 0 0;t" + next[i] + " 10 0 0;").walk(1, 12);
            due("5 less " + next[i], x.walker(0, 2), left[i]);
            due("more", x.walker(1, 2), 5 + next[i]);
            due("from nothing", x.walker(2, 2), next[i]);
        }
        Boat idle = plain(4, "t9 10 0 0;").walk(1);
        due("not below 0", idle.walker(2, 2), 0);
        due("not below 0", idle.walker(3, 2), 0);
    }

    private static void backed() {
        Boat x = Boat.told("w5 3;w5 9;w5 9;t4 10 0 0;t2 10 1 0;c7;");
        due("16 there", x.walks(1), 16);
        due("twice 28 back, for one is worn now", x.backs(), 56);
        due("stretch 0 is to come again", x.now(0), 0);
        due("furlongs to come", x.now(5), 6);
        due("the pair", x.now(2), 1);
        Boat two = Boat.told("w5 40;w5 40;w5 40;t4 10 0 0;t2 10 1 0;c7;").walk(1, 12);
        due("the latest stretch", two.backs(), 20);
        due("the one ahead of it, by the latest pair, and no change", two.backs(), 32);
        due("minute", two.now(1), 16 + 17 + 20 + 32);
        due("the pair", two.now(2), 12);
        Boat through = Boat.told("w5 40;w5 40;t4 10 0 0;").walk(1);
        due("through", through.now(6), 1);
        through.backs();
        due("not through any more", through.now(6), 0);
    }

    private static void backedTired() {
        Boat x = plain(4, "t5 10 0 0;t4 10 0 0;").walk(1, 12);
        // tired 1, 9, 4, 0
        x.backs();
        int[] first = {0, 13, 8, 0};
        for (int w = 0; w < 4; w++) {
            due("back over 4 furlongs: " + w, x.walker(w, 2), first[w]);
        }
        x.backs();
        int[] second = {0, 18, 13, 0};
        for (int w = 0; w < 4; w++) {
            due("back over 5 furlongs: " + w, x.walker(w, 2), second[w]);
        }
        Boat sevens = plain(2, "t7 10 0 0;t7 10 0 0;").walk(1);
        for (int i = 0; i < 6; i++) {
            sevens.walk(1).backs();
        }
        sevens.walk(1);
        due("98", sevens.walker(0, 2), 98);
        sevens.backs();
        due("99, not 105", sevens.walker(0, 2), 99);
        due("99, not 105", sevens.walker(1, 2), 99);
    }

    private static void rested() {
        Boat x = plain(3, "t2 10 0 0;").walk(1);
        due("minute", x.rests(1), 9);
        due("1 less", x.walker(0, 2), 1);
        due("1 less", x.walker(1, 2), 1);
        due("not below 0", x.walker(2, 2), 0);
        x.rests(1);
        due("0", x.walker(0, 2), 0);
        x.rests(1);
        due("not below 0", x.walker(0, 2), 0);
        due("nobody is there to rest", new Boat().rests(99), 99);
        due("the pair stays", x.now(2), 1);
        due("the place stays", x.now(0), 1);
        Boat longer = plain(2, "t9 10 0 0;").walk(1);
        longer.rests(8);
        due("8 of 9", longer.walker(0, 2), 1);
        longer.undo();
        longer.rests(9);
        due("9 of 9", longer.walker(0, 2), 0);
        longer.undo();
        longer.rests(10);
        due("10 of 9", longer.walker(0, 2), 0);
    }

    private static void lastMinute() {
        String tunnel = "t1 10 0 0;t1 10 0 0;t1 10 0 0;";
        due("walks to 9999", plain(3, tunnel).restTill(9995).walks(1), 4);
        due("walks to 10000", plain(3, tunnel).restTill(9996).walks(1), STATE);
        due("and is at 9999", plain(3, tunnel).restTill(9995).walk(1).now(1), 9999);
        due("changes to 9999", plain(3, tunnel).walk(1).restTill(9994).walks(2), 5);
        due("changes to 10000", plain(3, tunnel).walk(1).restTill(9995).walks(2), STATE);
        due("the same pair to 9999", plain(3, tunnel).walk(1).restTill(9995).walks(1), 4);
        due("backs to 9999", plain(3, tunnel).walk(1).restTill(9991).backs(), 8);
        due("backs to 10000", plain(3, tunnel).walk(1).restTill(9992).backs(), STATE);
        due("rests to 9999", plain(3, tunnel).restTill(9998).rests(1), 9999);
        due("rests to 10000", plain(3, tunnel).restTill(9999).rests(1), STATE);
        due("rests 99 to 9999", plain(3, tunnel).restTill(9900).rests(99), 9999);
        due("rests 99 to 10000", plain(3, tunnel).restTill(9901).rests(99), STATE);
        Boat last = plain(3, tunnel).walk(1).restTill(9999);
        due("walks no more", last.walks(1), STATE);
        due("backs no more", last.backs(), STATE);
        due("may be undone", last.undo(), 9);
    }

    private static void undone() {
        Boat rests = new Boat();
        for (int i = 1; i <= 10; i++) {
            rests.rests(1);
            due("known", rests.count(5), i);
        }
        rests.rests(1);
        due("ten, not eleven", rests.count(5), 10);
        for (int i = 9; i >= 0; i--) {
            due("more", rests.undo(), i);
            due("at minute", rests.now(1), i + 1);
        }
        due("the oldest is lost", rests.undo(), STATE);
        due("at minute", rests.now(1), 1);
        Boat x = Boat.told("w5 3;w5 9;w5 9;t4 10 0 0;t2 10 1 0;c7;").walk(1, 12);
        x.rests(2);
        x.backs();
        // tired ahead of the backing: 0, 4, 0; ahead of the rest: 2, 6, 2; ahead of the second walk: 4, 4, 0
        int[][] ahead = {{2, 35, 12, 0, 4, 0}, {2, 33, 12, 2, 6, 2}, {1, 16, 1, 4, 4, 0}, {0, 0, NONE, 0, 0, 0}};
        for (int i = 0; i < ahead.length; i++) {
            due("more", x.undo(), 3 - i);
            for (int j = 0; j < 6; j++) {
                due("undone " + i + ", " + j, j < 3 ? x.now(j) : x.walker(j - 3, 2), ahead[i][j]);
            }
        }
        x.walk(1);
        due("known anew", x.count(5), 1);
        due("undone anew", x.undo(), 0);
        due("none", x.undo(), STATE);
    }

    private static void calls() {
        Edges.test("MINUTES of a STRETCH by a PAIR, as TIRED as they are NOW. BAD (no such PAIR, too).", EdgeWalkTests::takes);
        Edges.test("WALKED: the MINUTES of it, CHANGE too.", EdgeWalkTests::walks);
        Edges.test("RESTED for n (1 .. 99) MINUTES: the MINUTE.", EdgeWalkTests::rests);
        Edges.test("(UNDONE at once.)", EdgeWalkTests::undoneAtOnce);
        Edges.test("UNDONE: how many more may be. STATE: none.", EdgeWalkTests::undo);
        Edges.test("0 STRETCHES that are gone, 1 the MINUTE, 2 the PAIR of the latest one (NONE), 3 WALKERS who are WORN (bits), "
            + "4 whether our way is free, 5 furlongs to come, 6 whether THROUGH. BAD.", EdgeWalkTests::now);
    }

    private static void takes() {
        Boat x = Boat.told("w5 1;w5 1;w5 1;t2 10 0 0;t3 10 0 0;c9;");
        due("nobody tired", x.takes(1, 1), 12);
        x.walks(1);
        due("the one that is gone, too", x.takes(0, 1), 20);
        due("one of them worn, no change", x.takes(1, 2), 21);
        x.walks(1);
        due("through", x.takes(1, 1), 30);
        int[] bad = {-1, 2, 5, 6, Edges.LEAST, Edges.GREATEST};
        for (int t : bad) {
            due("no stretch " + t, x.takes(t, 1), BAD);
        }
        due("no pair", x.takes(0, 3), BAD);
        due("neither", x.takes(2, 3), BAD);
        due("one walker", Boat.told("w5 1;t2 10 0 0;").takes(0, 1), BAD);
        due("no stretch", Boat.told("w5 1;w5 1;").takes(0, 1), BAD);
        Edges.changesNothing("takes", EdgeWalkTests::busy, y -> y.takes(0, 1));
        Edges.refused("no stretch", EdgeWalkTests::busy, y -> y.takes(9, 1), BAD);
    }

    private static void walks() {
        Boat x = Boat.told("w5 40;w5 40;w5 40;t2 10 0 0;t3 10 0 0;c9;");
        due("none", x.walks(1), 8);
        due("and 9", x.walks(2), 21);
        due("sixth of six", plain(2, "t1 10 0 0;".repeat(6)).walk(1, 1, 1, 1, 1).walks(1), 4);
        due("seventh of six", plain(2, "t1 10 0 0;".repeat(6)).walk(1, 1, 1, 1, 1, 1).walks(1), STATE);
    }

    private static void rests() {
        due("least", new Boat().rests(1), 1);
        due("greatest", new Boat().rests(99), 99);
        int[] bad = {0, 100, -1, Edges.LEAST, Edges.GREATEST};
        for (int n : bad) {
            Edges.refused("rests(" + n + ")", EdgeWalkTests::busy, x -> x.rests(n), BAD);
        }
    }

    private static void undoneAtOnce() {
        Boat x = plain(2, "t9 10 0 0;").walk(1);
        due("99 minutes", x.rests(99), 135);
        due("one to undo them, one to undo the walk", x.count(5), 2);
        due("undone", x.undo(), 1);
        due("minute", x.now(1), 36);
        due("as tired as then", x.walker(0, 2), 9);
    }

    private static void undo() {
        due("a new one", new Boat().undo(), STATE);
        Boat x = new Boat();
        x.rests(1);
        due("the last", x.undo(), 0);
        due("none", x.undo(), STATE);
        Boat refused = plain(2, "");
        refused.walks(1);
        refused.walks(5);
        refused.backs();
        refused.rests(0);
        due("refused calls are nothing to undo", refused.undo(), STATE);
    }

    private static void now() {
        Boat x = Boat.told("w5 1;w5 1;w5 1;w5 1;t9 10 0 0;t2 10 0 0;h40;").walk(1);
        due("gone", x.now(0), 1);
        due("minute", x.now(1), 36);
        due("pair", x.now(2), 1);
        due("two are worn", x.now(3), 3);
        due("free", x.now(4), 1);
        due("to come", x.now(5), 2);
        due("through", x.now(6), 0);
        x.walks(23);
        due("gone", x.now(0), 2);
        due("minute", x.now(1), 45);
        due("pair", x.now(2), 23);
        due("all are worn", x.now(3), 15);
        due("not free", x.now(4), 0);
        due("to come", x.now(5), 0);
        due("through", x.now(6), 1);
        due("most furlongs", plain(2, "t9 10 0 0;".repeat(6)).now(5), 54);
        int[] bad = {-1, 7, Edges.LEAST, Edges.GREATEST};
        for (int what : bad) {
            Edges.refused("now(" + what + ")", EdgeWalkTests::busy, y -> y.now(what), BAD);
        }
    }

    private static void refusals() {
        Edges.test("BAD; STATE: they are THROUGH, it would be above MINUTE 9999.", EdgeWalkTests::walksRefused);
        Edges.test("STATE: AHEAD of STRETCH 0, it would be above MINUTE 9999.", EdgeWalkTests::backsRefused);
        Edges.test("BAD; STATE: it would be above 9999.", EdgeWalkTests::restsRefused);
        Edges.test("Refused, and nothing changes, the first of these: BAD (a number is not as told, or there is no such thing), "
            + "STATE (as told), FULL.", EdgeWalkTests::nothingToUndo);
    }

    /** Between, tired, with images, sights and bytes, and with three to undo. */
    private static Boat busy() {
        Boat x = Boat.told("w3 4;w5 9;w2 30;t3 9 0 1;t5 7 1 0;t2 3 0 1;c2;h60;").walk(1);
        x.keep(0);
        x.rests(2);
        x.keep(1);
        x.walk(12);
        x.saw(0, 18);
        x.mark(3, 1);
        return x.write("w1 1;");
    }

    private static Boat through() {
        return busy().walk(2);
    }

    /** At 9998: nothing but one minute of rest fits. */
    private static Boat late() {
        return Boat.told("w3 4;w5 9;w2 30;t1 9 0 1;t1 7 1 0;").walk(1).restTill(9998);
    }

    private static void walksRefused() {
        int[] bad = {0, 3, 10, 21, -1, Edges.LEAST, Edges.GREATEST};
        for (int pair : bad) {
            Edges.refused("no pair " + pair, EdgeWalkTests::busy, x -> x.walks(pair), BAD);
        }
        Edges.refused("through", EdgeWalkTests::through, x -> x.walks(1), STATE);
        Edges.refused("late", EdgeWalkTests::late, x -> x.walks(1), STATE);
        Edges.refused("BAD goes ahead of through", EdgeWalkTests::through, x -> x.walks(3), BAD);
        Edges.refused("BAD goes ahead of late", EdgeWalkTests::late, x -> x.walks(3), BAD);
        due("through and late", plain(2, "").restTill(9999).walks(1), STATE);
    }

    private static void backsRefused() {
        Edges.refused("ahead of all", () -> Boat.told("w3 4;w5 9;t1 9 0 1;"), Boat::backs, STATE);
        Edges.refused("ahead of all again", () -> {
            Boat x = Boat.told("w3 4;w5 9;t1 9 0 1;").walk(1);
            x.backs();
            return x;
        }, Boat::backs, STATE);
        Edges.refused("late", EdgeWalkTests::late, Boat::backs, STATE);
        due("nothing is there", new Boat().backs(), STATE);
    }

    private static void restsRefused() {
        Edges.refused("late", EdgeWalkTests::late, x -> x.rests(2), STATE);
        Edges.refused("late, the most", EdgeWalkTests::late, x -> x.rests(99), STATE);
        Edges.refused("BAD goes ahead of late", EdgeWalkTests::late, x -> x.rests(100), BAD);
        Edges.refused("BAD goes ahead of late", EdgeWalkTests::late, x -> x.rests(0), BAD);
        due("one is left", late().rests(1), 9999);
    }

    private static void nothingToUndo() {
        Edges.refused("nothing to undo", () -> {
            Boat x = busy();
            x.undo();
            x.undo();
            x.undo();
            return x;
        }, Boat::undo, STATE);
        Edges.refused("ten were known", () -> {
            Boat x = late();
            for (int i = 0; i < 10; i++) {
                x.undo();
            }
            return x;
        }, Boat::undo, STATE);
    }
}
