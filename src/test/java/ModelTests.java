import java.util.ArrayDeque;
import java.util.ArrayList;
import java.util.Deque;
import java.util.List;
import java.util.Random;
import java.util.TreeMap;

/** Long runs of random calls, each answer held against a slow model that follows the document's words. */
public final class ModelTests {
    private static final int BAD = -1, STATE = -2, FULL = -3, NONE = -9, NO = -1000000;

    private record Now(int gone, int minute, int pair, List<Integer> tired) { }

    private record Image(Now now, List<Now> undo) { }

    private record Row(int minutes, List<Integer> pairs, List<Integer> ends, boolean everWorn) { }

    private static final class Model {
        StringBuilder text = new StringBuilder();
        List<int[]> walkers = new ArrayList<>();
        List<int[]> stretches = new ArrayList<>();
        int change = 1, hours = 0;
        Now now = start();
        Deque<Now> undo = new ArrayDeque<>();
        TreeMap<Integer, Image> images = new TreeMap<>();
        List<int[]> seen = new ArrayList<>();
        long trace = 0;

        Now start() {
            List<Integer> tired = new ArrayList<>();
            for (int i = 0; i < walkers.size(); i++) {
                tired.add(0);
            }
            return new Now(0, 0, NONE, tired);
        }

        boolean pairIs(int pair) {
            return pairs().contains(pair);
        }

        List<Integer> pairs() {
            List<Integer> all = new ArrayList<>();
            for (int a = 0; a < walkers.size(); a++) {
                for (int b = a + 1; b < walkers.size(); b++) {
                    all.add(10 * a + b);
                }
            }
            return all;
        }

        boolean worn(Now n, int w) {
            return n.tired.get(w) > walkers.get(w)[1];
        }

        int takes(Now n, int t, int pair) {
            int a = pair / 10, b = pair % 10;
            int[] s = stretches.get(t);
            int both = walkers.get(a)[0] + walkers.get(b)[0];
            int each = 4;
            each += s[1] > both ? 2 : 0;
            each += s[1] < both - 4 ? 1 : 0;
            each += s[2] == 1 ? 1 : 0;
            each += worn(n, a) ? 3 : 0;
            each += worn(n, b) ? 3 : 0;
            return each * s[0];
        }

        List<Integer> tiredAfter(Now n, int pair, int length) {
            List<Integer> tired = new ArrayList<>();
            for (int w = 0; w < walkers.size(); w++) {
                boolean works = pair >= 0 && (pair / 10 == w || pair % 10 == w);
                tired.add(works ? Math.min(99, n.tired.get(w) + length) : Math.max(0, n.tired.get(w) - length));
            }
            return tired;
        }

        Now walk(Now n, int pair) {
            int minutes = takes(n, n.gone, pair) + (n.pair != NONE && n.pair != pair ? change : 0);
            return new Now(n.gone + 1, n.minute + minutes, pair, tiredAfter(n, pair, stretches.get(n.gone)[0]));
        }

        void become(Now next) {
            undo.addLast(now);
            if (undo.size() > 10) {
                undo.removeFirst();
            }
            now = next;
        }

        void rows(Now n, List<Integer> pairs, List<Integer> ends, boolean everWorn, List<Row> all) {
            if (n.gone == stretches.size()) {
                all.add(new Row(n.minute, List.copyOf(pairs), List.copyOf(ends), everWorn));
                return;
            }
            for (int pair : pairs()) {
                Now next = walk(n, pair);
                pairs.add(pair);
                ends.add(next.minute);
                rows(next, pairs, ends, everWorn || worn(n, pair / 10) || worn(n, pair % 10), all);
                pairs.remove(pairs.size() - 1);
                ends.remove(ends.size() - 1);
            }
        }

        List<Row> rowsFrom(Now n) {
            List<Row> all = new ArrayList<>();
            rows(n, new ArrayList<>(), new ArrayList<>(), false, all);
            return all;
        }

        int plan(int i, boolean fresh) {
            if (i < -1 || i > 5) {
                return BAD;
            }
            if (now.gone == stretches.size()) {
                return NONE;
            }
            Row best = null;
            for (Row r : rowsFrom(now)) {
                if (!(fresh && r.everWorn) && (best == null || r.minutes < best.minutes)) {
                    best = r;
                }
            }
            if (best == null || i >= stretches.size()) {
                return NONE;
            }
            if (i == -1) {
                return best.minutes - now.minute;
            }
            return i < now.gone ? NONE : best.pairs.get(i - now.gone);
        }

        int hired(int pair, int p, int what) {
            if (!pairIs(pair) || p < 0 || p > 99 || what < 0 || what > 1) {
                return BAD;
            }
            long least = Long.MAX_VALUE;
            for (int set = 0; set < 64; set++) {
                if (set >> stretches.size() != 0 || (set & ((1 << now.gone) - 1)) != 0) {
                    continue;
                }
                Now n = new Now(now.gone, 0, pair, now.tired);
                int pence = 0;
                while (n.gone < stretches.size()) {
                    int length = stretches.get(n.gone)[0];
                    if ((set & 1 << n.gone) != 0) {
                        pence += length;
                        n = new Now(n.gone + 1, n.minute + 3 * length, pair, tiredAfter(n, -1, length));
                    } else {
                        n = walk(n, pair);
                    }
                }
                if (pence <= p) {
                    least = Math.min(least, n.minute * 1000000L + pence * 1000L + set);
                }
            }
            return (int) (what == 0 ? least % 1000 : least / 1000000);
        }

        Now through(int pair) {
            Now n = now;
            while (n.gone < stretches.size()) {
                n = walk(n, pair);
            }
            return n;
        }

        boolean free(int minute) {
            return hours == 0 || minute % (2 * hours) < hours;
        }

        int goIn(int pair) {
            if (!pairIs(pair)) {
                return BAD;
            }
            int takes = through(pair).minute - now.minute;
            for (int wait = 0; wait <= 200; wait++) {
                boolean ok = free(now.minute + wait);
                for (int m = 0; m < takes; m++) {
                    ok &= free(now.minute + wait + m);
                }
                if (ok) {
                    return wait;
                }
            }
            return NONE;
        }

        int meets(int pair, int n, int k, int what) {
            if (!pairIs(pair) || n < 0 || n > 200 || k < 1 || k > 9 || what < 0 || what > 1) {
                return BAD;
            }
            int[] in = new int[7], out = new int[7];
            int at = n;
            for (int t = stretches.size() - 1; t >= 0; t--) {
                in[t] = at;
                at += k * stretches.get(t)[0];
                out[t] = at;
            }
            Now w = now;
            int ours = 0;
            while (w.gone < stretches.size()) {
                int t = w.gone;
                Now next = walk(w, pair);
                for (int m = w.minute - now.minute; m <= next.minute - now.minute; m++) {
                    if (m >= in[t] && m <= out[t]) {
                        int theirs = 0;
                        for (int u = t + 1; u < stretches.size(); u++) {
                            theirs += stretches.get(u)[0];
                        }
                        return what == 0 ? t : ours < theirs ? 0 : 1;
                    }
                }
                ours += stretches.get(t)[0];
                w = next;
            }
            return NONE;
        }

        int odds(int pair, int x, int m, int what) {
            if (!pairIs(pair) || x < 0 || x > 10 || m < 0 || m > 9999 || what < 0 || what > 1) {
                return BAD;
            }
            int slimy = 0;
            for (int t = now.gone; t < stretches.size(); t++) {
                slimy += stretches.get(t)[2];
            }
            int minutes = through(pair).minute - now.minute;
            long upper = 0, lower = 1;
            for (int i = 0; i < slimy; i++) {
                lower *= 10;
            }
            for (int set = 0; set < 1 << slimy; set++) {
                long share = 1;
                for (int i = 0; i < slimy; i++) {
                    share *= (set >> i & 1) == 1 ? x : 10 - x;
                }
                upper += minutes + 5 * Integer.bitCount(set) <= m ? share : 0;
            }
            for (long d : new long[] {2, 5}) {
                while (upper % d == 0 && lower % d == 0) {
                    upper /= d;
                    lower /= d;
                }
            }
            return (int) (what == 0 ? upper : lower);
        }

        List<Row> fitting() {
            List<Row> fit = new ArrayList<>();
            for (Row r : rowsFrom(start())) {
                boolean ok = true;
                for (int[] s : seen) {
                    ok &= r.ends.get(s[0]) == s[1];
                }
                if (ok) {
                    fit.add(r);
                }
            }
            return fit;
        }

        int fits(int t) {
            if (t < -1 || t >= stretches.size()) {
                return BAD;
            }
            List<Row> fit = fitting();
            return t == -1 ? fit.size() : fit.isEmpty() ? NONE : fit.get(0).pairs.get(t);
        }

        int surely(int t) {
            if (t < 0 || t >= stretches.size()) {
                return BAD;
            }
            List<Row> fit = fitting();
            int bits = fit.isEmpty() ? 0 : 15;
            for (Row r : fit) {
                bits &= 1 << r.pairs.get(t) / 10 | 1 << r.pairs.get(t) % 10;
            }
            return bits;
        }

        int walks(int pair) {
            if (!pairIs(pair)) {
                return BAD;
            }
            if (now.gone == stretches.size() || walk(now, pair).minute > 9999) {
                return STATE;
            }
            become(walk(now, pair));
            return now.minute - undo.peekLast().minute;
        }

        int backs() {
            if (now.gone == 0) {
                return STATE;
            }
            int t = now.gone - 1, minutes = 2 * takes(now, t, now.pair);
            if (now.minute + minutes > 9999) {
                return STATE;
            }
            become(new Now(t, now.minute + minutes, now.pair, tiredAfter(now, now.pair, stretches.get(t)[0])));
            return minutes;
        }

        int rests(int n) {
            if (n < 1 || n > 99) {
                return BAD;
            }
            if (now.minute + n > 9999) {
                return STATE;
            }
            become(new Now(now.gone, now.minute + n, now.pair, tiredAfter(now, -1, n)));
            return now.minute;
        }

        int undoes() {
            if (undo.isEmpty()) {
                return STATE;
            }
            now = undo.removeLast();
            return undo.size();
        }

        int nows(int what) {
            int worn = 0, furlongs = 0;
            for (int w = 0; w < walkers.size(); w++) {
                worn |= worn(now, w) ? 1 << w : 0;
            }
            for (int t = now.gone; t < stretches.size(); t++) {
                furlongs += stretches.get(t)[0];
            }
            int[] all = {now.gone, now.minute, now.pair, worn, free(now.minute) ? 1 : 0, furlongs,
                now.gone == stretches.size() ? 1 : 0};
            return what < 0 || what >= all.length ? BAD : all[what];
        }

        int walker(int w, int what) {
            if (w < 0 || w >= walkers.size() || what < 0 || what > 3) {
                return BAD;
            }
            return what < 2 ? walkers.get(w)[what] : what == 2 ? now.tired.get(w) : worn(now, w) ? 1 : 0;
        }

        int stretch(int t, int what) {
            return t < 0 || t >= stretches.size() || what < 0 || what > 3 ? BAD : stretches.get(t)[what];
        }

        int saw(int t, int minute) {
            if (t < 0 || t >= stretches.size() || stretches.get(t)[3] == 0 || minute < 0 || minute > 9999) {
                return BAD;
            }
            if (seen.size() == 6) {
                return FULL;
            }
            seen.add(new int[] {t, minute});
            return seen.size();
        }

        int forget() {
            int had = seen.size();
            seen.clear();
            return had;
        }

        int mark(int kind, int t) {
            if (kind < 0 || kind > 5 || t < 0 || t >= stretches.size()) {
                return NO;
            }
            int[] s = stretches.get(t);
            int tired = now.tired.stream().mapToInt(i -> i).sum();
            int shafts = stretches.stream().mapToInt(i -> i[3]).sum();
            int[] marks = {s[0], s[0] + s[1], s[0] - tired, 2 * (s[0] + s[1]), s[0] - tired + shafts, s[0] + now.minute};
            int[] traces = {1, 11, 101, 1011, 10101, 100001};
            trace += traces[kind];
            return marks[kind];
        }

        int keep(int image) {
            if (image < 0 || image > 1) {
                return BAD;
            }
            images.put(image, new Image(now, List.copyOf(undo)));
            return now.minute;
        }

        int back(int image) {
            if (image < 0 || image > 1) {
                return BAD;
            }
            if (!images.containsKey(image)) {
                return STATE;
            }
            now = images.get(image).now;
            undo = new ArrayDeque<>(images.get(image).undo);
            return now.minute;
        }

        int count(int what) {
            int[] all = {walkers.size(), stretches.size(), change, hours, seen.size(), undo.size(), text.length()};
            return what < 0 || what >= all.length ? BAD : all[what];
        }

        int type(int c) {
            if (c < 0 || c > 255) {
                return BAD;
            }
            if (text.length() == 200) {
                return FULL;
            }
            text.append((char) c);
            return text.length();
        }

        int clear() {
            int had = text.length();
            text.setLength(0);
            return had;
        }

        /** A state machine over the tokens, all of which are cut first with their places. */
        int tunnel() {
            List<String> tokens = new ArrayList<>();
            List<Integer> places = new ArrayList<>();
            for (int i = 0; i < text.length();) {
                int j = i + 1;
                String sort = sort(text.charAt(i));
                while (j < text.length() && (sort.equals("a") || sort.equals("0")) && sort(text.charAt(j)).equals(sort)) {
                    j++;
                }
                if (!sort.equals(" ")) {
                    tokens.add(text.substring(i, j));
                    places.add(i);
                }
                i = j;
            }
            List<int[]> ws = new ArrayList<>(), ts = new ArrayList<>();
            List<Integer> cs = new ArrayList<>(), hs = new ArrayList<>();
            int items = 0, at = 0;
            while (at < tokens.size()) {
                String head = tokens.get(at);
                int[][] bounds;
                if (head.equals("w") && ws.size() < 4) {
                    bounds = new int[][] {{1, 9}, {1, 40}};
                } else if (head.equals("t") && ts.size() < 6) {
                    bounds = new int[][] {{1, 9}, {2, 18}, {0, 1}, {0, 1}};
                } else if (head.equals("c") && cs.isEmpty()) {
                    bounds = new int[][] {{0, 9}};
                } else if (head.equals("h") && hs.isEmpty()) {
                    bounds = new int[][] {{10, 99}};
                } else {
                    return -10 - places.get(at);
                }
                at++;
                int[] told = new int[bounds.length];
                for (int i = 0; i < bounds.length; i++, at++) {
                    if (at == tokens.size()) {
                        return -10 - text.length();
                    }
                    if (!tokens.get(at).matches("0|[1-9][0-9]?")) {
                        return -10 - places.get(at);
                    }
                    told[i] = Integer.parseInt(tokens.get(at));
                    if (told[i] < bounds[i][0] || told[i] > bounds[i][1]) {
                        return -10 - places.get(at);
                    }
                }
                if (at == tokens.size()) {
                    return -10 - text.length();
                }
                if (!tokens.get(at).equals(";")) {
                    return -10 - places.get(at);
                }
                at++;
                items++;
                switch (head) {
                    case "w" -> ws.add(told);
                    case "t" -> ts.add(told);
                    case "c" -> cs.add(told[0]);
                    default -> hs.add(told[0]);
                }
            }
            walkers = ws;
            stretches = ts;
            change = cs.isEmpty() ? 1 : cs.get(0);
            hours = hs.isEmpty() ? 0 : hs.get(0);
            now = start();
            undo.clear();
            images.clear();
            seen.clear();
            text.setLength(0);
            return items;
        }

        static String sort(char c) {
            return c >= 'a' && c <= 'z' ? "a" : c >= '0' && c <= '9' ? "0" : c == ' ' ? " " : String.valueOf(c);
        }
    }

    private static int wrong = 0;
    private static int answers = 0;
    /** Of this run: the document promises nothing behind the 512th. */
    private static int calls = 0;
    private static StringBuilder run = new StringBuilder();
    private static BoatLeggers x;
    private static Model m;
    private static Random random;

    private static int upTo(int low, int high) {
        return low + random.nextInt(high - low + 1);
    }

    /** Mostly as told, now and then not. */
    private static int about(int low, int high) {
        int dice = random.nextInt(60);
        if (dice == 0) {
            return low - 1;
        }
        if (dice == 1) {
            return high + 1;
        }
        if (dice == 2) {
            return random.nextInt();
        }
        return upTo(low, high);
    }

    private static int somePair() {
        List<Integer> pairs = m.pairs();
        if (pairs.isEmpty() || random.nextInt(40) == 0) {
            return about(-3, 45);
        }
        return pairs.get(random.nextInt(pairs.size()));
    }

    private static void same(String call, long got, long want) {
        answers++;
        calls++;
        if (calls > 512) {
            throw new IllegalStateException("the test makes more calls than the document has");
        }
        if (wrong < 40) {
            run.append(call).append(" -> ").append(got).append('\n');
        }
        if (got != want) {
            wrong++;
            if (wrong <= 3) {
                System.out.println(run + "due is " + want + "\n");
            }
        }
    }

    private static void write(String text) {
        for (char c : text.toCharArray()) {
            same("type(" + (int) c + ")", x.type(c), m.type(c));
        }
    }

    private static String soundText(int mostWalkers, int mostStretches) {
        List<String> items = new ArrayList<>();
        int strong = random.nextInt(3) == 0 ? 40 : 12;
        for (int i = upTo(random.nextInt(8) == 0 ? 0 : 2, mostWalkers); i > 0; i--) {
            items.add("w" + upTo(1, 9) + " " + upTo(1, strong));
        }
        int longest = upTo(1, 9);
        for (int i = upTo(random.nextInt(8) == 0 ? 0 : 1, mostStretches); i > 0; i--) {
            items.add("t " + upTo(1, longest) + " " + upTo(2, 18) + " " + upTo(0, 1) + " " + (random.nextInt(3) == 0 ? 0 : 1));
        }
        if (random.nextInt(3) > 0) {
            items.add("c" + upTo(0, 9));
        }
        if (random.nextInt(3) > 0) {
            items.add("h " + upTo(10, 99));
        }
        // walkers and stretches keep no order among one another
        java.util.Collections.shuffle(items, random);
        StringBuilder s = new StringBuilder();
        for (String item : items) {
            s.append(item).append(random.nextInt(4) == 0 ? " ; " : ";");
        }
        return s.toString();
    }

    private static String spoilt(String text) {
        StringBuilder s = new StringBuilder(text);
        String signs = "wtch;;  0123456789 axz$W\u00e9\t";
        for (int i = upTo(0, 2); i > 0 && s.length() > 0; i--) {
            int at = random.nextInt(s.length());
            char sign = signs.charAt(random.nextInt(signs.length()));
            switch (random.nextInt(4)) {
                case 0 -> s.deleteCharAt(at);
                case 1 -> s.insert(at, sign);
                case 2 -> s.setCharAt(at, sign);
                default -> s.setLength(at);
            }
        }
        return s.toString();
    }

    private static void readTunnel(int mostWalkers, int mostStretches) {
        same("clear()", x.clear(), m.clear());
        write(soundText(mostWalkers, mostStretches));
        same("tunnel()", x.tunnel(), m.tunnel());
    }

    private static int someMinute(int t) {
        if (t >= 0 && t < m.stretches.size() && !m.pairs().isEmpty() && random.nextInt(5) > 0) {
            List<Integer> pairs = m.pairs();
            Now n = m.start();
            int pair = pairs.get(0);
            while (n.gone <= t) {
                pair = random.nextBoolean() ? pair : pairs.get(random.nextInt(pairs.size()));
                n = m.walk(n, pair);
            }
            return n.minute;
        }
        return about(0, 9999);
    }

    private static void someCall() {
        int pair = somePair(), what = about(0, 1), t = about(0, Math.max(0, m.stretches.size() - 1));
        switch (random.nextInt(26)) {
            case 0 -> { int w = about(0, 3), i = about(0, 3); same("walker(" + w + ", " + i + ")", x.walker(w, i), m.walker(w, i)); }
            case 1 -> { int i = about(0, 3); same("stretch(" + t + ", " + i + ")", x.stretch(t, i), m.stretch(t, i)); }
            case 2 -> same("takes(" + t + ", " + pair + ")", x.takes(t, pair),
                t < 0 || t >= m.stretches.size() || !m.pairIs(pair) ? BAD : m.takes(m.now, t, pair));
            case 3, 4, 5, 6 -> same("walks(" + pair + ")", x.walks(pair), m.walks(pair));
            case 7, 8 -> same("backs()", x.backs(), m.backs());
            case 9 -> { int n = about(1, random.nextInt(3) == 0 ? 99 : 9); same("rests(" + n + ")", x.rests(n), m.rests(n)); }
            case 10 -> same("undo()", x.undo(), m.undoes());
            case 11 -> { for (int i = -1; i < 8; i++) { same("now(" + i + ")", x.now(i), m.nows(i)); } }
            case 12 -> { int i = about(-1, 5); same("best(" + i + ")", x.best(i), m.plan(i, false)); }
            case 13 -> { int i = about(-1, 5); same("fresh(" + i + ")", x.fresh(i), m.plan(i, true)); }
            case 14, 15 -> { int p = about(0, random.nextBoolean() ? 99 : 20);
                same("hired(" + pair + ", " + p + ", " + what + ")", x.hired(pair, p, what), m.hired(pair, p, what)); }
            case 16, 17 -> same("goIn(" + pair + ")", x.goIn(pair), m.goIn(pair));
            case 18 -> { int n = about(0, 200), k = about(1, 9);
                same("meets(" + pair + ", " + n + ", " + k + ", " + what + ")", x.meets(pair, n, k, what), m.meets(pair, n, k, what)); }
            case 19 -> { int s = about(0, 10), n = m.pairIs(pair) ? m.through(pair).minute - m.now.minute + upTo(-3, 32) : about(0, 9999);
                same("odds(" + pair + ", " + s + ", " + n + ", " + what + ")", x.odds(pair, s, n, what), m.odds(pair, s, n, what)); }
            case 20 -> { int n = someMinute(t); same("saw(" + t + ", " + n + ")", x.saw(t, n), m.saw(t, n)); }
            case 21 -> { int i = about(-1, 5); same("fits(" + i + ")", x.fits(i), m.fits(i)); same("surely(" + i + ")", x.surely(i), m.surely(i));
                if (random.nextInt(2) == 0) { same("forget()", x.forget(), m.forget()); } }
            case 22 -> { int k = about(0, 5); same("mark(" + k + ", " + t + ")", x.mark(k, t), m.mark(k, t)); same("trace()", x.trace(), m.trace); }
            case 23 -> same("keep(" + what + ")", x.keep(what), m.keep(what));
            case 24 -> same("back(" + what + ")", x.back(what), m.back(what));
            default -> { for (int i = -1; i < 8; i++) { same("count(" + i + ")", x.count(i), m.count(i)); } }
        }
    }

    private static void begin(long seed) {
        random = new Random(seed);
        x = new BoatLeggers();
        m = new Model();
        run = new StringBuilder("run " + seed + "\n");
        calls = 0;
    }

    private static void walkingRun(long seed) {
        begin(seed);
        boolean big = seed % 40 == 0;
        readTunnel(big ? 4 : 3, big ? 6 : 4);
        while (calls < 500) {
            someCall();
            if (calls < 300 && random.nextInt(100) == 0) {
                readTunnel(big ? 4 : 3, big ? 6 : 4);
            }
        }
    }

    private static void readingRun(long seed) {
        begin(seed);
        write(spoilt(soundText(4, 6)));
        same("tunnel()", x.tunnel(), m.tunnel());
        for (int i = -1; i < 8; i++) {
            same("count(" + i + ")", x.count(i), m.count(i));
            same("now(" + i + ")", x.now(i), m.nows(i));
        }
        for (int t = -1; t < 7; t++) {
            for (int i = 0; i < 4; i++) {
                same("walker(" + t + ", " + i + ")", x.walker(t, i), m.walker(t, i));
                same("stretch(" + t + ", " + i + ")", x.stretch(t, i), m.stretch(t, i));
            }
        }
    }

    /** Close to the last minute, where walking and backing are refused. */
    private static void lateRun(long seed) {
        begin(seed);
        readTunnel(3, 3);
        for (int i = 0; i < 100; i++) {
            same("rests(99)", x.rests(99), m.rests(99));
        }
        while (calls < 500) {
            someCall();
        }
    }

    public static void main(String[] args) {
        for (long seed = 1; seed <= 800; seed++) {
            walkingRun(seed);
        }
        for (long seed = 1; seed <= 4000; seed++) {
            readingRun(seed);
        }
        for (long seed = 1; seed <= 100; seed++) {
            lateRun(seed);
        }
        System.out.println(answers + " answers, " + wrong + " not as due");
        if (wrong != 0) {
            System.exit(1);
        }
    }
}
