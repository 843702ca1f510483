/** A BoatLeggers that writes down its calls, for a failing test to tell, and sees that the document's 512 suffice. */
final class Boat {
    private static final int MOST_CALLS = 512;

    private final BoatLeggers boat = new BoatLeggers();
    private final StringBuilder run = new StringBuilder();
    private int calls;
    private int marked;

    /** A new object that has read a text, which has to be a sound one. */
    static Boat told(String text) {
        Boat x = new Boat().write(text);
        int items = x.tunnel();
        if (items < 0) {
            throw new IllegalStateException("the test's own text is faulty: '" + text + "' at " + (-10 - items));
        }
        return x;
    }

    Boat write(String text) {
        for (int i = 0; i < text.length(); i++) {
            type(text.charAt(i));
        }
        return this;
    }

    /** Rests, by 99 minutes where it can be, until a minute. */
    Boat restTill(int minute) {
        for (int left = minute - now(1); left > 0; left -= 99) {
            rests(Math.min(left, 99));
        }
        return this;
    }

    Boat walk(int... pairs) {
        for (int pair : pairs) {
            walks(pair);
        }
        return this;
    }

    /** What is written down from here on is told by sinceMark(). */
    void mark() {
        marked = run.length();
    }

    String sinceMark() {
        return run.substring(marked);
    }

    String wholeRun() {
        return run.toString();
    }

    private long wrote(String call, long answer) {
        calls++;
        if (calls > MOST_CALLS) {
            throw new IllegalStateException("the test makes more calls than the document has: " + run);
        }
        run.append(call).append(" -> ").append(answer).append('\n');
        return answer;
    }

    private int wrote(String call, int answer) {
        return (int) wrote(call, (long) answer);
    }

    int type(int c) {
        return wrote("type(" + c + ")", boat.type(c));
    }

    int clear() {
        return wrote("clear()", boat.clear());
    }

    int tunnel() {
        return wrote("tunnel()", boat.tunnel());
    }

    int walker(int w, int what) {
        return wrote("walker(" + w + ", " + what + ")", boat.walker(w, what));
    }

    int stretch(int t, int what) {
        return wrote("stretch(" + t + ", " + what + ")", boat.stretch(t, what));
    }

    int takes(int t, int pair) {
        return wrote("takes(" + t + ", " + pair + ")", boat.takes(t, pair));
    }

    int walks(int pair) {
        return wrote("walks(" + pair + ")", boat.walks(pair));
    }

    int backs() {
        return wrote("backs()", boat.backs());
    }

    int rests(int n) {
        return wrote("rests(" + n + ")", boat.rests(n));
    }

    int undo() {
        return wrote("undo()", boat.undo());
    }

    int now(int what) {
        return wrote("now(" + what + ")", boat.now(what));
    }

    int best(int i) {
        return wrote("best(" + i + ")", boat.best(i));
    }

    int fresh(int i) {
        return wrote("fresh(" + i + ")", boat.fresh(i));
    }

    int hired(int pair, int p, int what) {
        return wrote("hired(" + pair + ", " + p + ", " + what + ")", boat.hired(pair, p, what));
    }

    int goIn(int pair) {
        return wrote("goIn(" + pair + ")", boat.goIn(pair));
    }

    int meets(int pair, int n, int k, int what) {
        return wrote("meets(" + pair + ", " + n + ", " + k + ", " + what + ")", boat.meets(pair, n, k, what));
    }

    int odds(int pair, int x, int m, int what) {
        return wrote("odds(" + pair + ", " + x + ", " + m + ", " + what + ")", boat.odds(pair, x, m, what));
    }

    int saw(int t, int minute) {
        return wrote("saw(" + t + ", " + minute + ")", boat.saw(t, minute));
    }

    int forget() {
        return wrote("forget()", boat.forget());
    }

    int fits(int t) {
        return wrote("fits(" + t + ")", boat.fits(t));
    }

    int surely(int t) {
        return wrote("surely(" + t + ")", boat.surely(t));
    }

    int mark(int kind, int t) {
        return wrote("mark(" + kind + ", " + t + ")", boat.mark(kind, t));
    }

    int keep(int image) {
        return wrote("keep(" + image + ")", boat.keep(image));
    }

    int back(int image) {
        return wrote("back(" + image + ")", boat.back(image));
    }

    int count(int what) {
        return wrote("count(" + what + ")", boat.count(what));
    }

    long trace() {
        return wrote("trace()", boat.trace());
    }
}
