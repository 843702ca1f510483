/** The sentences of the document that name an edge of THE TEXT and of what it tells: promises 1 to 6. */
public final class EdgeTextTests {
    private static final int BAD = Edges.BAD, STATE = Edges.STATE, FULL = Edges.FULL, NONE = Edges.NONE;
    private static final String RICH = "w3 4;w5 9;w2 30;t3 9 0 1;t5 7 1 0;t2 3 0 1;c2;h60;";

    private static void due(String what, long got, long want) {
        Edges.due(what, got, want);
    }

    private static void taken(String text, int items) {
        due("'" + text + "'", new Boat().write(text).tunnel(), items);
    }

    private static void fault(String text, int place) {
        due("fault of '" + text + "'", new Boat().write(text).tunnel(), -10 - place);
    }

    /** Something of everything, so that whatever a refused call spoils can be seen. */
    private static Boat rich() {
        Boat x = Boat.told(RICH).walk(1);
        x.rests(3);
        x.keep(0);
        x.walk(2);
        x.backs();
        x.keep(1);
        x.undo();
        x.saw(0, 18);
        x.saw(2, 60);
        x.mark(4, 1);
        return x;
    }

    public static void main(String[] args) {
        whatIsTold();
        bytesAndTokens();
        faults();
        calls();
        Edges.end();
    }

    private static void whatIsTold() {
        Edges.test("As told; no WALKERS, no STRETCHES.", EdgeTextTests::newObject);
        Edges.test("(4 of them at most): REACH (1 .. 9), STRENGTH (1 .. 40).", EdgeTextTests::fourWalkers);
        Edges.test("REACH (1 .. 9)", EdgeTextTests::reach);
        Edges.test("STRENGTH (1 .. 40)", EdgeTextTests::strength);
        Edges.test("STRETCHES 0 .. (6 of them at most)", EdgeTextTests::sixStretches);
        Edges.test("LENGTH (1 .. 9 furlongs)", EdgeTextTests::length);
        Edges.test("BREADTH (2 .. 18)", EdgeTextTests::breadth);
        Edges.test("SLIMY (1) or not (0)", EdgeTextTests::slimy);
        Edges.test("a SHAFT at its end (1) or not (0)", EdgeTextTests::shaft);
        Edges.test("CHANGE costs some MINUTES (0 .. 9; 1 at first).", EdgeTextTests::change);
        Edges.test("our way is free for so many MINUTES (10 .. 99)", EdgeTextTests::hours);
        Edges.test("then the other one for as many, and so on", EdgeTextTests::hoursByTurns);
        Edges.test("(always free, if that is not told)", EdgeTextTests::alwaysFree);
    }

    private static void newObject() {
        Boat x = new Boat();
        int[] counts = {0, 0, 1, 0, 0, 0, 0};
        for (int what = 0; what < counts.length; what++) {
            due("count(" + what + ")", x.count(what), counts[what]);
        }
        int[] nows = {0, 0, NONE, 0, 1, 0, 1};
        for (int what = 0; what < nows.length; what++) {
            due("now(" + what + ")", x.now(what), nows[what]);
        }
        due("nobody", x.walker(0, 0), BAD);
        due("nothing", x.stretch(0, 0), BAD);
        due("takes", x.takes(0, 1), BAD);
        due("walks", x.walks(1), BAD);
        due("backs", x.backs(), STATE);
        due("undo", x.undo(), STATE);
        due("best", x.best(-1), NONE);
        due("fresh", x.fresh(-1), NONE);
        due("hired", x.hired(1, 0, 0), BAD);
        due("goIn", x.goIn(1), BAD);
        due("meets", x.meets(1, 0, 1, 0), BAD);
        due("odds", x.odds(1, 0, 0, 0), BAD);
        due("saw", x.saw(0, 0), BAD);
        due("forget", x.forget(), 0);
        due("fits: the row of nothing", x.fits(-1), 1);
        due("fits(0)", x.fits(0), BAD);
        due("surely(0)", x.surely(0), BAD);
        due("mark", x.mark(0, 0), Edges.NO);
        due("back", x.back(0), STATE);
        due("trace", x.trace(), 0);
        due("clear", x.clear(), 0);
    }

    private static void fourWalkers() {
        taken("", 0);
        Boat four = Boat.told("w1 1;w2 2;w3 3;w4 4;");
        due("four", four.count(0), 4);
        due("the fourth", four.walker(3, 0), 4);
        due("no fifth", four.walker(4, 0), BAD);
        fault("w1 1;w2 2;w3 3;w4 4;w5 5;", 20);
        fault("w1 1;w2 2;w3 3;w4 4;c1; w5 5;", 24);
    }

    private static void reach() {
        due("least", Boat.told("w1 5;").walker(0, 0), 1);
        due("greatest", Boat.told("w9 5;").walker(0, 0), 9);
        fault("w0 5;", 1);
        fault("w10 5;", 1);
    }

    private static void strength() {
        due("least", Boat.told("w5 1;").walker(0, 1), 1);
        due("greatest", Boat.told("w5 40;").walker(0, 1), 40);
        fault("w5 0;", 3);
        fault("w5 41;", 3);
    }

    private static void sixStretches() {
        Boat six = Boat.told("t1 2 0 0;t2 2 0 0;t3 2 0 0;t4 2 0 0;t5 2 0 0;t6 2 0 0;");
        due("six", six.count(1), 6);
        due("the sixth", six.stretch(5, 0), 6);
        due("no seventh", six.stretch(6, 0), BAD);
        due("furlongs", six.now(5), 21);
        fault("t1 2 0 0;t2 2 0 0;t3 2 0 0;t4 2 0 0;t5 2 0 0;t6 2 0 0; t7 2 0 0;", 55);
        due("none", Boat.told("w1 1;").count(1), 0);
        due("all of both", Boat.told("t1 2 0 0;t2 2 0 0;t3 2 0 0;t4 2 0 0;t5 2 0 0;t6 2 0 0;w1 1;w1 1;w1 1;w1 1;c0;h10;")
            .count(0), 4);
    }

    private static void length() {
        due("least", Boat.told("t1 5 0 0;").stretch(0, 0), 1);
        due("greatest", Boat.told("t9 5 0 0;").stretch(0, 0), 9);
        fault("t0 5 0 0;", 1);
        fault("t10 5 0 0;", 1);
    }

    private static void breadth() {
        due("least", Boat.told("t5 2 0 0;").stretch(0, 1), 2);
        due("greatest", Boat.told("t5 18 0 0;").stretch(0, 1), 18);
        fault("t5 1 0 0;", 3);
        fault("t5 0 0 0;", 3);
        fault("t5 19 0 0;", 3);
    }

    private static void slimy() {
        due("not", Boat.told("t5 5 0 1;").stretch(0, 2), 0);
        due("slimy", Boat.told("t5 5 1 0;").stretch(0, 2), 1);
        fault("t5 5 2 0;", 5);
        fault("t5 5 ;", 5);
    }

    private static void shaft() {
        due("none", Boat.told("t5 5 1 0;").stretch(0, 3), 0);
        due("a shaft", Boat.told("t5 5 0 1;").stretch(0, 3), 1);
        fault("t5 5 0 2;", 7);
    }

    private static void change() {
        due("at first", new Boat().count(2), 1);
        due("not told", Boat.told("w1 1;").count(2), 1);
        due("least", Boat.told("c0;").count(2), 0);
        due("greatest", Boat.told("c9;").count(2), 9);
        fault("c10;", 1);
        int[] costs = {0, 1, 9};
        for (int cost : costs) {
            Boat x = Boat.told("w5 40;w5 40;w5 40;t1 10 0 0;t1 10 0 0;c" + cost + ";").walk(1);
            due("costs " + cost, x.walks(2), 4 + cost);
        }
        due("1 at first costs 1", Boat.told("w5 40;w5 40;w5 40;t1 10 0 0;t1 10 0 0;").walk(1).walks(2), 5);
        Boat anew = Boat.told("c7;");
        for (int i = 1; i <= 3; i++) {
            anew.tunnel();
            due("1 again, if it is not told anew, " + i, anew.count(2), 1);
        }
    }

    private static void hours() {
        due("not told", new Boat().count(3), 0);
        due("least", Boat.told("h10;").count(3), 10);
        due("greatest", Boat.told("h99;").count(3), 99);
        fault("h9;", 1);
        fault("h0;", 1);
        fault("h100;", 1);
        Boat anew = Boat.told("h50;");
        for (int i = 1; i <= 3; i++) {
            anew.tunnel();
            due("always free again, if it is not told anew, " + i, anew.count(3), 0);
        }
    }

    private static void hoursByTurns() {
        int[] many = {10, 37, 99};
        for (int h : many) {
            Boat x = Boat.told("h" + h + ";");
            for (int turn = 0; turn < 4; turn++) {
                due(h + ": first of turn " + turn, x.restTill(turn * h).now(4), turn % 2 == 0 ? 1 : 0);
                due(h + ": last of turn " + turn, x.restTill(turn * h + h - 1).now(4), turn % 2 == 0 ? 1 : 0);
            }
        }
        due("9999 by tens", Boat.told("h10;").restTill(9999).now(4), 0);
        due("9999 by 99", Boat.told("h99;").restTill(9999).now(4), 0);
        due("9899 by 99", Boat.told("h99;").restTill(9899).now(4), 0);
        due("9900 by 99", Boat.told("h99;").restTill(9900).now(4), 1);
    }

    private static void alwaysFree() {
        Boat x = Boat.told("w1 1;w1 1;t1 2 0 0;");
        due("at first", x.now(4), 1);
        due("at 10", x.restTill(10).now(4), 1);
        due("at 99", x.restTill(99).now(4), 1);
        due("at 9999", x.restTill(9999).now(4), 1);
    }

    private static void bytesAndTokens() {
        Edges.test("They are a text (200 bytes at most)", EdgeTextTests::twoHundredBytes);
        Edges.test("blanks (32) between TOKENS", EdgeTextTests::blanks);
        Edges.test("ITEMS, each letters and what is told, ended by ;", EdgeTextTests::endedItems);
        Edges.test("c, h once each at most", EdgeTextTests::onceEach);
        Edges.test("TOKENS are letters a .. z side by side, NUMBERS and ;", EdgeTextTests::tokens);
    }

    private static void twoHundredBytes() {
        Boat x = new Boat().write("c0;".concat(" ".repeat(196)));
        due("the last", x.type(32), 200);
        due("one more", x.type(32), FULL);
        due("still", x.count(6), 200);
        due("a full text is read", x.tunnel(), 1);
        due("and is empty then", x.count(6), 0);
        due("room again", x.type(32), 1);
        taken(" ".repeat(197) + "c0;", 1);
        taken("c" + " ".repeat(97) + "0" + " ".repeat(100) + ";", 1);
        fault(" ".repeat(198) + "c0", 200);
        fault(" ".repeat(199) + ";", 199);
        fault("c0;" + " ".repeat(196) + "x", 199);
        fault("c" + "1".repeat(199), 1);
        fault("c".repeat(200), 0);
        fault(";".repeat(200), 0);
    }

    private static void blanks() {
        taken("w3 4;", 1);
        taken("  w  3  4  ;  ", 1);
        taken("w 3 4 ;t 1 2 0 1 ; c 0 ; h 10 ;", 4);
        taken("w3 4;t1 2 0 1;c0;h10;", 4);
        taken("    ", 0);
        due("no blank between numbers: one number", new Boat().write("w34;").tunnel(), -11);
        int[] none = {0, 9, 10, 13, 31, 33, 160, 255};
        for (int b : none) {
            fault("w3" + (char) b + "4;", 2);
            fault("" + (char) b, 0);
        }
    }

    private static void endedItems() {
        fault("w3 4", 4);
        fault("w3 4 w3 4;", 5);
        fault("w3 4 5;", 5);
        fault("w3;", 2);
        fault("w;", 1);
        fault("t1 2 0 1 1;", 9);
        fault("t1 2 0;", 6);
        fault("c1 1;", 3);
        fault("c;", 1);
        fault("h10 10;", 4);
        fault("h;", 1);
        fault("c1;;", 3);
        fault(";c1;", 0);
    }

    private static void onceEach() {
        taken("c1;h10;", 2);
        taken("h10;c1;", 2);
        fault("c1;c1;", 3);
        fault("c1;h10;c2;", 7);
        fault("h10;h10;", 4);
        fault("h10; c1; h10;", 9);
        Boat x = Boat.told("c1;h10;").write("c2;h20;");
        due("once in each text", x.tunnel(), 2);
        due("told anew", x.count(2), 2);
        due("told anew", x.count(3), 20);
    }

    private static void tokens() {
        for (char c = 'a'; c <= 'z'; c++) {
            if ("wtch".indexOf(c) < 0) {
                fault(c + "1;", 0);
            }
            fault("w" + c + "3 4;", 0);
            fault("w 3 4" + c + ";", 5);
            fault("h " + c + ";", 2);
        }
        int[] none = {'`', '{', '@', 'A', 'W', 'Z', '[', '/', ':', '<', '-', '+', '.', ',', 128, 247};
        for (int b : none) {
            fault((char) b + "3 4;", 0);
            fault("w" + (char) b + "3 4;", 1);
            fault("w3" + (char) b + " 4;", 2);
            fault("w3 4" + (char) b + ";", 4);
        }
        fault("w w3 4;", 2);
        fault("c 1 0;", 4);
        for (int n = 0; n <= 99; n++) {
            boolean small = n < 10;
            Boat x = Boat.told((small ? "c" : "h") + n + ";");
            due("number " + n, x.count(small ? 2 : 3), n);
            fault(n + " 5;", 0);
        }
    }

    private static void faults() {
        Edges.test("letters that begin no ITEM", EdgeTextTests::beginNoItem);
        Edges.test("a fifth walker, a seventh stretch, c, h again", EdgeTextTests::oneTooMany);
        Edges.test("a NUMBER beyond what it may be, too", EdgeTextTests::beyond);
        Edges.test("of a byte that begins none", EdgeTextTests::beginsNone);
        Edges.test("a NUMBER above 99 or with a 0 ahead of others, that TOKEN's", EdgeTextTests::numbers);
        Edges.test("the text's length, if it ends too early", EdgeTextTests::endsTooEarly);
        Edges.test("the place of the first byte of the first TOKEN that can't stand there", EdgeTextTests::theFirst);
    }

    private static void beginNoItem() {
        fault("x1;", 0);
        fault("ch1;", 0);
        fault("c1; wt 1 1;", 4);
        fault("c1;a", 3);
        fault("c1;zz", 3);
        fault("W1 1;", 0);
    }

    private static void oneTooMany() {
        String walkers = "w1 1;w1 1;w1 1;w1 1;";
        String stretches = "t1 2 0 0;t1 2 0 0;t1 2 0 0;t1 2 0 0;t1 2 0 0;t1 2 0 0;";
        taken(walkers + stretches + "c0;h10;", 12);
        fault(walkers + "w", 20);
        fault(walkers + "  w1 1;", 22);
        fault(stretches + "t", 54);
        fault(stretches + " t1 2 0 0;", 55);
        fault("c0;c", 3);
        fault("h10;h", 4);
        fault(walkers + stretches + "c0;h10;w", 81);
        fault(walkers + stretches + "c0;h10;t", 81);
        fault(walkers + stretches + "c0;h10;c", 81);
        fault(walkers + stretches + "c0;h10;h", 81);
    }

    private static void beyond() {
        fault("w 99 1;", 2);
        fault("w 1 99;", 4);
        fault("w 1 0", 4);
        fault("t 1 19", 4);
        fault("t 1 2 2", 6);
        fault("t 1 2 0 9", 8);
        fault("c 99", 2);
        fault("h 9", 2);
        fault("h 0 x", 2);
    }

    private static void beginsNone() {
        fault("$", 0);
        fault("  $", 2);
        fault("w$", 1);
        fault("w $", 2);
        fault("w1$", 2);
        fault("w1 1$", 4);
        fault("w1 1;$", 5);
        fault("w1 1; \u00ff", 6);
        fault("w1 1;\u0000", 5);
        fault("w-1 1;", 1);
    }

    private static void numbers() {
        taken("h99;", 1);
        fault("h100;", 1);
        fault("h 100;", 2);
        fault("h 999", 2);
        fault("h 4294967306;", 2);
        fault("h 18446744073709551626;", 2);
        taken("c0;", 1);
        fault("c00;", 1);
        fault("c01;", 1);
        fault("h 010;", 2);
        fault("w 1 001", 4);
        fault("100", 0);
        fault("c 1 100;", 4);
    }

    private static void endsTooEarly() {
        String[] items = {"w 3 4 ;", "t 9 8 1 0 ;", "c 5 ;", "h 50 ;", "w3 4;", "t9 8 1 0;", "c5;"};
        for (String item : items) {
            for (int length = 1; length < item.length(); length++) {
                String early = item.substring(0, length);
                // the 5 of 50 is beyond what hours may be, which is another fault
                if (!early.equals("h 5")) {
                    fault(early, length);
                    fault("w1 1;" + early, 5 + length);
                }
            }
        }
        fault("h 5", 2);
        fault("w   ", 4);
        fault("w3 4   ", 7);
    }

    private static void theFirst() {
        fault("x $ 100 01", 0);
        fault("w x $", 2);
        fault("w $ x", 2);
        fault("w 10 41", 2);
        fault("c0;c0;$", 3);
        fault("w1 1;  x", 7);
        fault("$ w1 1;", 0);
        fault("c1;w 0 100;h9;", 5);
    }

    private static void calls() {
        Edges.test("A byte (0 .. 255) comes to THE TEXT: how many it has. BAD; FULL.", EdgeTextTests::type);
        Edges.test("THE TEXT is empty: how many bytes it had.", EdgeTextTests::clear);
        Edges.test("THE TEXT tells all, and is empty then: how many ITEMS.", EdgeTextTests::tunnel);
        Edges.test("-10 less FAULT: nothing changes.", EdgeTextTests::faultChangesNothing);
        Edges.test("(Read anew: as told, at the beginning, nothing SEEN or to be UNDONE, IMAGES are gone.)", EdgeTextTests::anew);
        Edges.test("Of a WALKER: 0 REACH, 1 STRENGTH, 2 TIRED, 3 whether WORN. BAD.", EdgeTextTests::walker);
        Edges.test("Of a STRETCH: 0 LENGTH, 1 BREADTH, 2 SLIMY, 3 SHAFT. BAD.", EdgeTextTests::stretch);
    }

    private static void type() {
        due("least", new Boat().type(0), 1);
        due("greatest", new Boat().type(255), 1);
        int[] bad = {-1, 256, Edges.LEAST, Edges.GREATEST};
        for (int c : bad) {
            Edges.refused("BAD: " + c, () -> rich().write("w1"), x -> x.type(c), BAD);
            due("BAD goes ahead of FULL: " + c, new Boat().write(" ".repeat(200)).type(c), BAD);
        }
        Edges.refused("FULL", () -> Boat.told("w1 1;").write("w1 1;" + " ".repeat(195)), x -> x.type('w'), FULL);
    }

    private static void clear() {
        due("none", new Boat().clear(), 0);
        due("one", new Boat().write("w").clear(), 1);
        Boat full = new Boat().write("x".repeat(200));
        due("all", full.clear(), 200);
        due("none then", full.clear(), 0);
        due("room for all", full.write(" ".repeat(199)).type(32), 200);
        Edges.changesNothing("but the text", EdgeTextTests::rich, x -> x.write("w1 ").clear());
        Boat again = new Boat().write("w1 12;");
        again.clear();
        due("older bytes are gone", again.write("w1 1").tunnel(), -14);
    }

    private static void tunnel() {
        Boat x = Boat.told(RICH);
        due("an empty text has no ITEMS", x.tunnel(), 0);
        for (int what = 0; what < 7; what++) {
            due("and tells nobody and nothing: " + what, x.count(what), what == 2 ? 1 : 0);
        }
        due("blanks alone", Boat.told(RICH).write("   ").tunnel(), 0);
        due("one", new Boat().write("h10;").tunnel(), 1);
        Boat most = new Boat().write("w1 1;w1 1;w1 1;w1 1;t1 2 0 0;t1 2 0 0;t1 2 0 0;t1 2 0 0;t1 2 0 0;t1 2 0 0;c0;h10;");
        due("the most", most.tunnel(), 12);
        due("empty then", most.count(6), 0);
        due("empty then", most.clear(), 0);
    }

    private static void faultChangesNothing() {
        String[] texts = {"$", "w1 1;c9;h99;t9 18 1 1", "w9 40;w9 40;w9 40;w9 40;w9 40;", "c9;c9;", "h99;h99;", "t9 18 0 0;w 0"};
        int[] places = {0, 21, 24, 3, 4, 12};
        for (int i = 0; i < texts.length; i++) {
            String text = texts[i];
            Edges.refused("'" + text + "'", () -> rich().write(text), Boat::tunnel, -10 - places[i]);
        }
        Boat x = rich().write("c9");
        x.tunnel();
        due("the text stays, and may go on", x.write(";").tunnel(), 1);
    }

    private static void anew() {
        Boat x = rich().write("w3 4;w5 9;w2 30;t3 9 0 1;");
        // asked ahead of it, so that an answer that was kept would show
        x.best(-1);
        x.fresh(-1);
        x.fits(-1);
        due("items", x.tunnel(), 4);
        due("asked anew", x.best(-1), 18);
        due("asked anew", x.fresh(0), 1);
        due("asked anew", x.fits(-1), 3);
        int[] nows = {0, 0, NONE, 0, 1, 3, 0};
        for (int what = 0; what < nows.length; what++) {
            due("now(" + what + ")", x.now(what), nows[what]);
        }
        for (int w = 0; w < 3; w++) {
            due("nobody is tired: " + w, x.walker(w, 2), 0);
        }
        due("nothing seen", x.count(4), 0);
        due("nothing to be undone", x.count(5), 0);
        due("nothing to be undone", x.undo(), STATE);
        due("image 0 is gone", x.back(0), STATE);
        due("image 1 is gone", x.back(1), STATE);
        due("no change at first", x.walks(2), 3 * 6);
        due("anew by a text of nothing", x.tunnel(), 0);
        due("through then", x.now(6), 1);
        due("at minute 0 then", x.now(1), 0);
        Boat fewer = Boat.told("w5 40;w5 40;w5 40;w5 40;t1 10 0 0;");
        for (int i = 1; i <= 3; i++) {
            fewer.write("w5 40;w5 40;t1 11 0 0;").tunnel();
            due("one pair is left, " + i, fewer.fits(-1), 1);
            due("one pair is left, " + i, fewer.best(-1), 6);
            fewer.write("w5 40;t1 10 0 0;").tunnel();
            due("no pair is left, " + i, fewer.fits(-1), 0);
            due("no pair is left, " + i, fewer.best(-1), NONE);
        }
    }

    private static void walker() {
        Boat x = Boat.told("w2 3;w9 40;t4 5 0 1;").walk(1);
        int[][] want = {{2, 3, 4, 1}, {9, 40, 4, 0}};
        for (int w = 0; w < 2; w++) {
            for (int what = 0; what < 4; what++) {
                due("walker(" + w + ", " + what + ")", x.walker(w, what), want[w][what]);
            }
        }
        int[] bad = {-1, 2, 3, 4, 5, Edges.LEAST, Edges.GREATEST};
        for (int w : bad) {
            due("no walker " + w, x.walker(w, 0), BAD);
            due("no walker " + w + " of four", Boat.told("w1 1;w1 1;w1 1;w1 1;").walker(w, 1), w == 2 || w == 3 ? 1 : BAD);
        }
        int[] badWhat = {-1, 4, Edges.LEAST, Edges.GREATEST};
        for (int what : badWhat) {
            due("what " + what, x.walker(0, what), BAD);
        }
        x.tunnel();
        due("nobody any more", x.walker(0, 2), BAD);
    }

    private static void stretch() {
        Boat x = Boat.told("t4 5 0 1;t9 18 1 0;");
        int[][] want = {{4, 5, 0, 1}, {9, 18, 1, 0}};
        for (int t = 0; t < 2; t++) {
            for (int what = 0; what < 4; what++) {
                due("stretch(" + t + ", " + what + ")", x.stretch(t, what), want[t][what]);
            }
        }
        int[] bad = {-1, 2, 5, 6, 7, Edges.LEAST, Edges.GREATEST};
        for (int t : bad) {
            due("no stretch " + t, x.stretch(t, 0), BAD);
            due("no stretch " + t + " of six", Boat.told("t1 2 0 0;t1 2 0 0;t1 2 0 0;t1 2 0 0;t1 2 0 0;t1 2 0 0;").stretch(t, 0),
                t == 2 || t == 5 ? 1 : BAD);
        }
        int[] badWhat = {-1, 4, Edges.LEAST, Edges.GREATEST};
        for (int what : badWhat) {
            due("what " + what, x.stretch(0, what), BAD);
        }
        x.tunnel();
        due("nothing any more", x.stretch(0, 0), BAD);
    }
}
