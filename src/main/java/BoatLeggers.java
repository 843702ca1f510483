/** A boat that is legged through a tunnel, stretch by stretch, by pairs of walkers. */
public final class BoatLeggers {
    public static final int BAD = -1, STATE = -2, FULL = -3, NONE = -9;
    public static final int NO = -1000000;

    private static final int WALKERS = 4, STRETCHES = 6, PAIRS = 6;
    private static final int BYTES = 200, UNDOS = 10, SIGHTS = 6, IMAGES = 2;
    private static final int LAST_MINUTE = 9999, MOST_TIRED = 99, LONGEST_WAIT = 200;
    private static final int EVERYBODY = 15;

    private final Reader text = new Reader();
    /** Two tunnels by turns: the one that stands, and the one a text is read into. */
    private Tunnel told = new Tunnel();
    private Tunnel draft = new Tunnel();
    private final Voyage voyage = new Voyage();
    private final Voyage[] images = new Voyage[IMAGES];
    private final boolean[] kept = new boolean[IMAGES];
    private final Sightings seen = new Sightings();
    private final Planner soonest = new Planner(false);
    private final Planner unworn = new Planner(true);
    private final Moment trial = new Moment();
    private long traced;

    public BoatLeggers() {
        for (int i = 0; i < IMAGES; i++) {
            images[i] = new Voyage();
        }
    }

    // ---- the tunnel

    public int type(int c) {
        if (c < 0 || c > 255) {
            return BAD;
        }
        if (text.size >= BYTES) {
            return FULL;
        }
        text.bytes[text.size] = c;
        text.size++;
        return text.size;
    }

    public int clear() {
        int had = text.size;
        text.size = 0;
        return had;
    }

    public int tunnel() {
        int items = text.readInto(draft);
        if (items < 0) {
            return items;
        }
        Tunnel old = told;
        told = draft;
        draft = old;
        text.size = 0;
        voyage.restart();
        for (int i = 0; i < IMAGES; i++) {
            kept[i] = false;
        }
        seen.size = 0;
        seen.counted = false;
        moved();
        return items;
    }

    public int walker(int w, int what) {
        if (w < 0 || w >= told.walkers) {
            return BAD;
        }
        switch (what) {
            case 0:
                return told.reach[w];
            case 1:
                return told.strength[w];
            case 2:
                return voyage.at.tired[w];
            case 3:
                return voyage.at.isWorn(told, w) ? 1 : 0;
            default:
                return BAD;
        }
    }

    public int stretch(int t, int what) {
        if (!told.hasStretch(t)) {
            return BAD;
        }
        switch (what) {
            case 0:
                return told.length[t];
            case 1:
                return told.breadth[t];
            case 2:
                return told.slimy[t];
            case 3:
                return told.shaft[t];
            default:
                return BAD;
        }
    }

    public int takes(int t, int pair) {
        if (!told.hasStretch(t) || !told.hasPair(pair)) {
            return BAD;
        }
        return voyage.at.minutesOn(told, t, pair);
    }

    // ---- walking

    public int walks(int pair) {
        if (!told.hasPair(pair)) {
            return BAD;
        }
        if (voyage.at.gone >= told.stretches) {
            return STATE;
        }
        int minutes = voyage.at.minutesToWalk(told, pair);
        int till = voyage.at.minute + minutes;
        if (till > LAST_MINUTE) {
            return STATE;
        }
        voyage.remember();
        voyage.at.walkOn(told, pair, till);
        moved();
        return minutes;
    }

    public int backs() {
        Moment at = voyage.at;
        if (at.gone < 1 || !told.hasStretch(at.gone - 1) || !told.hasPair(at.pair)) {
            return STATE;
        }
        int t = at.gone - 1;
        int minutes = 2 * at.minutesOn(told, t, at.pair);
        if (at.minute + minutes > LAST_MINUTE) {
            return STATE;
        }
        voyage.remember();
        at.gone = t;
        at.minute += minutes;
        at.tire(at.pair, told.length[t]);
        moved();
        return minutes;
    }

    public int rests(int n) {
        if (n < 1 || n > 99) {
            return BAD;
        }
        if (voyage.at.minute + n > LAST_MINUTE) {
            return STATE;
        }
        voyage.remember();
        voyage.at.minute += n;
        voyage.at.ease(n);
        moved();
        return voyage.at.minute;
    }

    public int undo() {
        if (voyage.known < 1) {
            return STATE;
        }
        voyage.takeBack();
        moved();
        return voyage.known;
    }

    public int now(int what) {
        Moment at = voyage.at;
        switch (what) {
            case 0:
                return at.gone;
            case 1:
                return at.minute;
            case 2:
                return at.pair;
            case 3:
                return at.wornBits(told);
            case 4:
                return told.isFree(at.minute) ? 1 : 0;
            case 5:
                return told.furlongs(at.gone, told.stretches);
            case 6:
                return at.gone >= told.stretches ? 1 : 0;
            default:
                return BAD;
        }
    }

    /** Plans hold from NOW on, so whatever changes NOW makes them stale. */
    private void moved() {
        soonest.planned = false;
        unworn.planned = false;
    }

    // ---- what comes

    public int best(int i) {
        return planned(soonest, i);
    }

    public int fresh(int i) {
        return planned(unworn, i);
    }

    private int planned(Planner planner, int i) {
        if (i < -1 || i >= STRETCHES) {
            return BAD;
        }
        if (!planner.planned) {
            planner.plan(told, voyage.at);
        }
        return i < 0 ? planner.minutes : planner.best[i];
    }

    public int hired(int pair, int p, int what) {
        if (!told.hasPair(pair) || p < 0 || p > 99 || what < 0 || what > 1) {
            return BAD;
        }
        int all = (1 << told.stretches) - 1;
        int gone = (1 << voyage.at.gone) - 1;
        int bestSet = 0;
        int bestPence = 0;
        int bestMinutes = minutesWithHired(pair, 0);
        for (int set = 1; set <= all; set++) {
            int pence = told.furlongsOf(set);
            if ((set & gone) != 0 || pence > p) {
                continue;
            }
            int minutes = minutesWithHired(pair, set);
            if (minutes < bestMinutes || (minutes == bestMinutes && pence < bestPence)) {
                bestSet = set;
                bestPence = pence;
                bestMinutes = minutes;
            }
        }
        return what == 0 ? bestSet : bestMinutes;
    }

    private int minutesWithHired(int pair, int set) {
        trial.copy(voyage.at);
        int minutes = 0;
        for (int t = voyage.at.gone; t < told.stretches; t++) {
            if ((set >> t & 1) == 1) {
                minutes += 3 * told.length[t];
                trial.ease(told.length[t]);
            } else {
                minutes += trial.minutesOn(told, t, pair);
                trial.tire(pair, told.length[t]);
            }
        }
        return minutes;
    }

    public int goIn(int pair) {
        if (!told.hasPair(pair)) {
            return BAD;
        }
        if (told.hours == 0) {
            return 0;
        }
        int minutes = minutesThrough(pair);
        for (int wait = 0; wait <= LONGEST_WAIT; wait++) {
            int start = voyage.at.minute + wait;
            if (told.isFree(start) && minutes <= told.freeMinutesLeft(start)) {
                return wait;
            }
        }
        return NONE;
    }

    /** Minutes of a pair that walks all to come, the change among them. */
    private int minutesThrough(int pair) {
        trial.copy(voyage.at);
        trial.minute = 0;
        for (int t = voyage.at.gone; t < told.stretches; t++) {
            trial.walkOn(told, pair, trial.minute + trial.minutesToWalk(told, pair));
        }
        return trial.minute;
    }

    public int meets(int pair, int n, int k, int what) {
        if (!told.hasPair(pair) || n < 0 || n > 200 || k < 1 || k > 9 || what < 0 || what > 1) {
            return BAD;
        }
        int t = meetingStretch(pair, n, k);
        if (t == NONE || what == 0) {
            return t;
        }
        int ours = told.furlongs(voyage.at.gone, t);
        int theirs = told.furlongs(t + 1, told.stretches);
        return ours < theirs ? 0 : 1;
    }

    private int meetingStretch(int pair, int n, int k) {
        trial.copy(voyage.at);
        trial.minute = 0;
        for (int t = voyage.at.gone; t < told.stretches; t++) {
            int weCome = trial.minute;
            int weLeave = weCome + trial.minutesToWalk(told, pair);
            trial.walkOn(told, pair, weLeave);
            int theyCome = n + k * told.furlongs(t + 1, told.stretches);
            int theyLeave = theyCome + k * told.length[t];
            if (weCome <= theyLeave && theyCome <= weLeave) {
                return t;
            }
        }
        return NONE;
    }

    public int odds(int pair, int x, int m, int what) {
        if (!told.hasPair(pair) || x < 0 || x > 10 || m < 0 || m > LAST_MINUTE || what < 0 || what > 1) {
            return BAD;
        }
        int minutes = minutesThrough(pair);
        int slimy = told.slimyFrom(voyage.at.gone);
        int upper = 0;
        int ways = 1;
        for (int slips = 0; slips <= slimy; slips++) {
            if (minutes + 5 * slips <= m) {
                upper += ways * power(x, slips) * power(10 - x, slimy - slips);
            }
            ways = ways * (slimy - slips) / (slips + 1);
        }
        int lower = power(10, slimy);
        int common = commonDivisor(upper, lower);
        return (what == 0 ? upper : lower) / common;
    }

    private static int power(int base, int times) {
        int product = 1;
        for (int i = 0; i < times; i++) {
            product *= base;
        }
        return product;
    }

    /** At least 1, so that it may divide. */
    private static int commonDivisor(int a, int b) {
        int greater = a;
        int lesser = b;
        for (int i = 0; i < 64 && lesser != 0; i++) {
            int rest = greater % lesser;
            greater = lesser;
            lesser = rest;
        }
        return Math.max(greater, 1);
    }

    // ---- what was seen

    public int saw(int t, int minute) {
        if (!told.hasStretch(t) || told.shaft[t] == 0 || minute < 0 || minute > LAST_MINUTE) {
            return BAD;
        }
        if (seen.size >= SIGHTS) {
            return FULL;
        }
        seen.add(t, minute);
        return seen.size;
    }

    public int forget() {
        int had = seen.size;
        seen.size = 0;
        seen.counted = false;
        return had;
    }

    public int fits(int t) {
        if (t != -1 && !told.hasStretch(t)) {
            return BAD;
        }
        seen.look(told);
        if (t == -1) {
            return seen.rows;
        }
        return seen.rows == 0 ? NONE : seen.first[t];
    }

    public int surely(int t) {
        if (!told.hasStretch(t)) {
            return BAD;
        }
        seen.look(told);
        return seen.rows == 0 ? 0 : seen.sure[t];
    }

    // ---- kinds, images

    public int mark(int kind, int t) {
        if (!told.hasStretch(t)) {
            return NO;
        }
        switch (kind) {
            case 0:
                return asStep(t);
            case 1:
                return asFirm(t);
            case 2:
                return asSlimy(t);
            case 3:
                return asStretched(t);
            case 4:
                return asCramped(t);
            case 5:
                return asBlind(t);
            default:
                return NO;
        }
    }

    private int asStep(int t) {
        traced += 1;
        return told.length[t];
    }

    private int asFirm(int t) {
        traced += 10;
        return asStep(t) + told.breadth[t];
    }

    private int asSlimy(int t) {
        traced += 100;
        return asStep(t) - voyage.at.tiredTogether();
    }

    private int asStretched(int t) {
        traced += 1000;
        return asFirm(t) * 2;
    }

    private int asCramped(int t) {
        traced += 10000;
        return asSlimy(t) + told.shafts();
    }

    private int asBlind(int t) {
        traced += 100000;
        return asStep(t) + voyage.at.minute;
    }

    public int keep(int image) {
        if (image < 0 || image >= IMAGES) {
            return BAD;
        }
        images[image].copy(voyage);
        kept[image] = true;
        return voyage.at.minute;
    }

    public int back(int image) {
        if (image < 0 || image >= IMAGES) {
            return BAD;
        }
        if (!kept[image]) {
            return STATE;
        }
        voyage.copy(images[image]);
        moved();
        return voyage.at.minute;
    }

    public int count(int what) {
        switch (what) {
            case 0:
                return told.walkers;
            case 1:
                return told.stretches;
            case 2:
                return told.change;
            case 3:
                return told.hours;
            case 4:
                return seen.size;
            case 5:
                return voyage.known;
            case 6:
                return text.size;
            default:
                return BAD;
        }
    }

    public long trace() {
        return traced;
    }

    /** What a text tells. */
    private static final class Tunnel {
        int walkers;
        int stretches;
        int change = 1;
        int hours;
        int pairs;
        final int[] reach = new int[WALKERS];
        final int[] strength = new int[WALKERS];
        final int[] length = new int[STRETCHES];
        final int[] breadth = new int[STRETCHES];
        final int[] slimy = new int[STRETCHES];
        final int[] shaft = new int[STRETCHES];
        /** All pairs, the lesser ones first. */
        final int[] pairAt = new int[PAIRS];
        /** The fewest and the most minutes that any row of pairs may take to the start of a stretch. */
        final int[] fewest = new int[STRETCHES + 1];
        final int[] most = new int[STRETCHES + 1];

        void empty() {
            walkers = 0;
            stretches = 0;
            change = 1;
            hours = 0;
        }

        void addWalker(int reaches, int strong) {
            if (walkers < WALKERS) {
                reach[walkers] = reaches;
                strength[walkers] = strong;
                walkers++;
            }
        }

        void addStretch(int furlongs, int broad, int slime, int light) {
            if (stretches < STRETCHES) {
                length[stretches] = furlongs;
                breadth[stretches] = broad;
                slimy[stretches] = slime;
                shaft[stretches] = light;
                stretches++;
            }
        }

        /** Called when all is told: what the searches ask again and again. */
        void prepare() {
            pairs = 0;
            for (int a = 0; a < walkers; a++) {
                for (int b = a + 1; b < walkers && pairs < PAIRS; b++) {
                    pairAt[pairs] = 10 * a + b;
                    pairs++;
                }
            }
            for (int t = 0; t < stretches; t++) {
                boundMinutes(t);
            }
        }

        private void boundMinutes(int t) {
            int low = 0;
            int high = 0;
            for (int p = 0; p < pairs; p++) {
                int rate = unwornRate(t, pairAt[p]);
                low = p == 0 ? rate : Math.min(low, rate);
                high = Math.max(high, rate + 6);
            }
            fewest[t + 1] = fewest[t] + low * length[t];
            most[t + 1] = most[t] + high * length[t] + change;
        }

        boolean hasStretch(int t) {
            return t >= 0 && t < stretches;
        }

        boolean hasPair(int pair) {
            return pair >= 0 && pair / 10 < pair % 10 && pair % 10 < walkers;
        }

        /** Minutes for a furlong by a pair that is there, nobody worn. */
        int unwornRate(int t, int pair) {
            int together = reach[pair / 10] + reach[pair % 10];
            int rate = 4 + slimy[t];
            if (breadth[t] > together) {
                rate += 2;
            }
            if (breadth[t] < together - 4) {
                rate += 1;
            }
            return rate;
        }

        int furlongs(int from, int behind) {
            int sum = 0;
            for (int t = Math.max(from, 0); t < behind && t < stretches; t++) {
                sum += length[t];
            }
            return sum;
        }

        int furlongsOf(int set) {
            int sum = 0;
            for (int t = 0; t < stretches; t++) {
                if ((set >> t & 1) == 1) {
                    sum += length[t];
                }
            }
            return sum;
        }

        int slimyFrom(int from) {
            int sum = 0;
            for (int t = Math.max(from, 0); t < stretches; t++) {
                sum += slimy[t];
            }
            return sum;
        }

        int shafts() {
            int sum = 0;
            for (int t = 0; t < stretches; t++) {
                sum += shaft[t];
            }
            return sum;
        }

        boolean isFree(int minute) {
            return hours == 0 || minute / hours % 2 == 0;
        }

        /** From the start of a free minute to the first that is not. */
        int freeMinutesLeft(int minute) {
            return hours == 0 ? LAST_MINUTE : hours - minute % hours;
        }
    }

    /** The text, and how it is read token by token. */
    private static final class Reader {
        private static final int END = 0, LETTERS = 1, NUMBER = 2, STOP = 3, WRONG = 4;
        /** The least and the greatest that each number of an item may be. */
        private static final int[] WALKER_BOUNDS = {1, 9, 1, 40};
        private static final int[] STRETCH_BOUNDS = {1, 9, 2, 18, 0, 1, 0, 1};
        private static final int[] CHANGE_BOUNDS = {0, 9};
        private static final int[] HOURS_BOUNDS = {10, 99};

        int size;
        final int[] bytes = new int[BYTES];
        /** The latest token: its sort, its first byte's place, its number or its only letter. */
        private int sort;
        private int place;
        private int value;
        private int behind;
        private boolean changeTold;
        private boolean hoursTold;
        private final int[] numbers = new int[4];

        /** How many items, or -10 less the fault's place. */
        int readInto(Tunnel draft) {
            draft.empty();
            behind = 0;
            changeTold = false;
            hoursTold = false;
            int items = 0;
            nextToken();
            for (int i = 0; i < BYTES && sort != END; i++) {
                if (!readItem(draft)) {
                    return -10 - place;
                }
                items++;
                nextToken();
            }
            draft.prepare();
            return items;
        }

        private boolean readItem(Tunnel draft) {
            int letter = sort == LETTERS ? value : 0;
            if (!mayBegin(draft, letter) || !readNumbers(boundsOf(letter))) {
                return false;
            }
            tell(draft, letter);
            return true;
        }

        private boolean mayBegin(Tunnel draft, int letter) {
            switch (letter) {
                case 'w':
                    return draft.walkers < WALKERS;
                case 't':
                    return draft.stretches < STRETCHES;
                case 'c':
                    return !changeTold;
                case 'h':
                    return !hoursTold;
                default:
                    return false;
            }
        }

        private static int[] boundsOf(int letter) {
            switch (letter) {
                case 'w':
                    return WALKER_BOUNDS;
                case 't':
                    return STRETCH_BOUNDS;
                case 'c':
                    return CHANGE_BOUNDS;
                default:
                    return HOURS_BOUNDS;
            }
        }

        /** As many numbers as there are bounds for, and the stop that ends the item. */
        private boolean readNumbers(int[] bounds) {
            for (int i = 0; i < numbers.length && 2 * i + 1 < bounds.length; i++) {
                nextToken();
                if (sort != NUMBER || value < bounds[2 * i] || value > bounds[2 * i + 1]) {
                    return false;
                }
                numbers[i] = value;
            }
            nextToken();
            return sort == STOP;
        }

        private void tell(Tunnel draft, int letter) {
            switch (letter) {
                case 'w':
                    draft.addWalker(numbers[0], numbers[1]);
                    break;
                case 't':
                    draft.addStretch(numbers[0], numbers[1], numbers[2], numbers[3]);
                    break;
                case 'c':
                    changeTold = true;
                    draft.change = numbers[0];
                    break;
                default:
                    hoursTold = true;
                    draft.hours = numbers[0];
                    break;
            }
        }

        private void nextToken() {
            while (behind < size && bytes[behind] == ' ') {
                behind++;
            }
            place = behind;
            value = 0;
            if (behind >= size) {
                sort = END;
            } else if (isLetter(bytes[behind])) {
                takeLetters();
            } else if (isDigit(bytes[behind])) {
                takeNumber();
            } else {
                sort = bytes[behind] == ';' ? STOP : WRONG;
                behind++;
            }
        }

        private void takeLetters() {
            sort = LETTERS;
            while (behind < size && isLetter(bytes[behind])) {
                behind++;
            }
            value = behind == place + 1 ? bytes[place] : 0;
        }

        private void takeNumber() {
            while (behind < size && isDigit(bytes[behind])) {
                // capped, for a text may have more digits than an int holds
                value = Math.min(value * 10 + bytes[behind] - '0', 100);
                behind++;
            }
            boolean ahead = bytes[place] == '0' && behind > place + 1;
            sort = ahead || value > 99 ? WRONG : NUMBER;
        }

        private static boolean isLetter(int c) {
            return c >= 'a' && c <= 'z';
        }

        private static boolean isDigit(int c) {
            return c >= '0' && c <= '9';
        }
    }

    /** Where the boat is, when, and how the walkers are. */
    private static final class Moment {
        int gone;
        int minute;
        int pair = NONE;
        final int[] tired = new int[WALKERS];

        void begin() {
            gone = 0;
            minute = 0;
            pair = NONE;
            for (int w = 0; w < WALKERS; w++) {
                tired[w] = 0;
            }
        }

        void copy(Moment other) {
            gone = other.gone;
            minute = other.minute;
            pair = other.pair;
            for (int w = 0; w < WALKERS; w++) {
                tired[w] = other.tired[w];
            }
        }

        boolean isWorn(Tunnel told, int w) {
            return tired[w] > told.strength[w];
        }

        int wornBits(Tunnel told) {
            int bits = 0;
            for (int w = 0; w < told.walkers; w++) {
                if (isWorn(told, w)) {
                    bits |= 1 << w;
                }
            }
            return bits;
        }

        /** How many of a pair are worn. */
        int wornOf(Tunnel told, int by) {
            int a = by / 10;
            int b = by % 10;
            return (tired[a] > told.strength[a] ? 1 : 0) + (tired[b] > told.strength[b] ? 1 : 0);
        }

        int tiredTogether() {
            int sum = 0;
            for (int w = 0; w < WALKERS; w++) {
                sum += tired[w];
            }
            return sum;
        }

        /** Without a change; stretch and pair are there. */
        int minutesOn(Tunnel told, int t, int by) {
            return told.length[t] * (told.unwornRate(t, by) + 3 * wornOf(told, by));
        }

        /** With a change; there is a stretch to come. */
        int minutesToWalk(Tunnel told, int by) {
            int minutes = minutesOn(told, gone, by);
            return pair == NONE || pair == by ? minutes : minutes + told.change;
        }

        /** Till a minute that the caller has reckoned already. */
        void walkOn(Tunnel told, int by, int till) {
            if (gone < told.stretches) {
                minute = till;
                tire(by, told.length[gone]);
                pair = by;
                gone++;
            }
        }

        /** The two of a pair are more tired, all others less. */
        void tire(int by, int furlongs) {
            for (int w = 0; w < WALKERS; w++) {
                if (w == by / 10 || w == by % 10) {
                    tired[w] = Math.min(tired[w] + furlongs, MOST_TIRED);
                } else {
                    tired[w] = Math.max(tired[w] - furlongs, 0);
                }
            }
        }

        void ease(int by) {
            for (int w = 0; w < WALKERS; w++) {
                tired[w] = Math.max(tired[w] - by, 0);
            }
        }
    }

    /** A moment, and the ones ahead of it that may come again. */
    private static final class Voyage {
        final Moment at = new Moment();
        int known;
        private final Moment[] past = new Moment[UNDOS];

        Voyage() {
            for (int i = 0; i < UNDOS; i++) {
                past[i] = new Moment();
            }
        }

        void restart() {
            at.begin();
            known = 0;
        }

        void copy(Voyage other) {
            at.copy(other.at);
            known = other.known;
            for (int i = 0; i < known && i < UNDOS; i++) {
                past[i].copy(other.past[i]);
            }
        }

        void remember() {
            if (known >= UNDOS) {
                loseOldest();
            }
            past[known].copy(at);
            known++;
        }

        /** The lost one's room goes to the end, to be used again. */
        private void loseOldest() {
            Moment oldest = past[0];
            for (int i = 1; i < UNDOS; i++) {
                past[i - 1] = past[i];
            }
            past[UNDOS - 1] = oldest;
            known = UNDOS - 1;
        }

        void takeBack() {
            if (known > 0) {
                known--;
                at.copy(past[known]);
            }
        }
    }

    /** The first of the quickest rows of pairs for all that is to come. */
    private static final class Planner {
        boolean planned;
        /** NONE, if there is no row. */
        int minutes = NONE;
        final int[] best = new int[STRETCHES];
        private final boolean wornMayNot;
        private final int[] row = new int[STRETCHES];
        private final Moment[] ahead = new Moment[STRETCHES + 1];

        Planner(boolean wornMayNot) {
            this.wornMayNot = wornMayNot;
            for (int t = 0; t <= STRETCHES; t++) {
                ahead[t] = new Moment();
            }
        }

        void plan(Tunnel told, Moment from) {
            planned = true;
            minutes = NONE;
            for (int t = 0; t < STRETCHES; t++) {
                best[t] = NONE;
                row[t] = NONE;
            }
            if (told.pairs > 0 && from.gone < told.stretches) {
                ahead[from.gone].copy(from);
                ahead[from.gone].minute = 0;
                search(told, from.gone);
            }
        }

        private void search(Tunnel told, int t) {
            if (t >= told.stretches || t >= STRETCHES) {
                take(ahead[t].minute);
                return;
            }
            Moment here = ahead[t];
            Moment next = ahead[t + 1];
            for (int p = 0; p < told.pairs; p++) {
                int pair = told.pairAt[p];
                if (wornMayNot && here.wornOf(told, pair) > 0) {
                    continue;
                }
                int till = here.minute + here.minutesToWalk(told, pair);
                if (mayBeQuicker(told, t + 1, till)) {
                    next.copy(here);
                    next.walkOn(told, pair, till);
                    row[t] = pair;
                    search(told, t + 1);
                }
            }
        }

        /** A later row that is only as quick is not wanted, for the first one is. */
        private boolean mayBeQuicker(Tunnel told, int t, int minute) {
            return minutes == NONE || minute + told.fewest[told.stretches] - told.fewest[t] < minutes;
        }

        private void take(int found) {
            minutes = found;
            for (int t = 0; t < STRETCHES; t++) {
                best[t] = row[t];
            }
        }
    }

    /** What was seen under shafts, and the rows of pairs that fit it. */
    private static final class Sightings {
        int size;
        boolean counted;
        int rows;
        final int[] first = new int[STRETCHES];
        final int[] sure = new int[STRETCHES];
        private final int[] stretch = new int[SIGHTS];
        private final int[] minute = new int[SIGHTS];
        /** The minute that is due at a stretch's end, NONE if nothing was seen there. */
        private final int[] due = new int[STRETCHES];
        private int lastDue;
        private final int[] row = new int[STRETCHES];
        private final Moment[] ahead = new Moment[STRETCHES + 1];

        Sightings() {
            for (int t = 0; t <= STRETCHES; t++) {
                ahead[t] = new Moment();
            }
        }

        void add(int t, int at) {
            if (size < SIGHTS) {
                stretch[size] = t;
                minute[size] = at;
                size++;
                counted = false;
            }
        }

        void look(Tunnel told) {
            if (counted) {
                return;
            }
            counted = true;
            rows = 0;
            for (int t = 0; t < STRETCHES; t++) {
                sure[t] = EVERYBODY;
            }
            if (gatherDue()) {
                ahead[0].begin();
                search(told, 0);
            }
        }

        /** Whether no stretch was ended in two different minutes. */
        private boolean gatherDue() {
            lastDue = -1;
            for (int t = 0; t < STRETCHES; t++) {
                due[t] = NONE;
            }
            for (int i = 0; i < size; i++) {
                int t = stretch[i];
                if (due[t] != NONE && due[t] != minute[i]) {
                    return false;
                }
                due[t] = minute[i];
                lastDue = Math.max(lastDue, t);
            }
            return true;
        }

        private void search(Tunnel told, int t) {
            if (t > lastDue || t >= told.stretches || t >= STRETCHES) {
                addRows(told, t);
                return;
            }
            Moment here = ahead[t];
            Moment next = ahead[t + 1];
            for (int p = 0; p < told.pairs; p++) {
                int pair = told.pairAt[p];
                int till = here.minute + here.minutesToWalk(told, pair);
                if (mayFit(told, t, till)) {
                    next.copy(here);
                    next.walkOn(told, pair, till);
                    row[t] = pair;
                    search(told, t + 1);
                }
            }
        }

        /** Whether the next minute that is due can be met by one who ends a stretch in a minute. */
        private boolean mayFit(Tunnel told, int ended, int till) {
            for (int t = ended; t < told.stretches; t++) {
                if (due[t] != NONE) {
                    int soonest = till + told.fewest[t + 1] - told.fewest[ended + 1];
                    int latest = till + told.most[t + 1] - told.most[ended + 1];
                    return soonest <= due[t] && due[t] <= latest;
                }
            }
            return true;
        }

        /** Behind the last minute that is due any pairs fit, so these rows need not be walked. */
        private void addRows(Tunnel told, int free) {
            int many = power(told.pairs, told.stretches - free);
            if (many == 0) {
                return;
            }
            for (int t = free; t < told.stretches; t++) {
                row[t] = told.pairAt[0];
            }
            for (int t = 0; t < told.stretches; t++) {
                if (rows == 0) {
                    first[t] = row[t];
                }
                sure[t] &= t >= free && told.pairs > 1 ? 0 : bitsOf(row[t]);
            }
            rows += many;
        }

        private static int bitsOf(int pair) {
            return 1 << pair / 10 | 1 << pair % 10;
        }
    }
}
