/** A StuckRecord whose calls are counted: nothing is promised after the 512th, so no test may ask for more. */
final class Counted {
    static final int MOST_CALLS = 512;

    private final StuckRecord record = new StuckRecord();
    private int calls = 0;

    int left() {
        return MOST_CALLS - calls;
    }

    private StuckRecord next() {
        if (calls >= MOST_CALLS) {
            throw new IllegalStateException("a test makes more than 512 calls of one object");
        }
        calls++;
        return record;
    }

    int state(int v) {
        return next().state(v);
    }

    boolean set(int what, int who, int v) {
        return next().set(what, who, v);
    }

    int put(int kind, int size, int life, int inch) {
        return next().put(kind, size, life, inch);
    }

    boolean act(int what, int who, int v) {
        return next().act(what, who, v);
    }

    int days(int n) {
        return next().days(n);
    }

    int feed(int a, int b, int c, int d, int e) {
        return next().feed(a, b, c, d, e);
    }

    boolean end(int n) {
        return next().end(n);
    }

    int text(int k) {
        return next().text(k);
    }

    int fault(int what) {
        return next().fault(what);
    }

    int inch(int inch, int what) {
        return next().inch(inch, what);
    }

    int of(int thing, int what) {
        return next().of(thing, what);
    }

    int book(int i, int what) {
        return next().book(i, what);
    }

    int goes(int n, int what) {
        return next().goes(n, what);
    }

    int nearest(int kind) {
        return next().nearest(kind);
    }

    int heaps(int what) {
        return next().heaps(what);
    }

    int kind(int v) {
        return next().kind(v);
    }

    int says(int what) {
        return next().says(what);
    }

    int pass(int w, int what) {
        return next().pass(w, what);
    }

    int words(int legs, int worth) {
        return next().words(legs, worth);
    }

    int legs(int what) {
        return next().legs(what);
    }

    int order(int what) {
        return next().order(what);
    }

    int sight(int strips) {
        return next().sight(strips);
    }

    int cover(int what) {
        return next().cover(what);
    }

    int vein(int wing, int from, int to) {
        return next().vein(wing, from, to);
    }

    int wings(int what) {
        return next().wings(what);
    }

    int weekday(int date) {
        return next().weekday(date);
    }

    int between(int from, int to) {
        return next().between(from, to);
    }

    int leans(int thing) {
        return next().leans(thing);
    }

    int go(int v) {
        return next().go(v);
    }

    int squires(int what) {
        return next().squires(what);
    }

    int held(int n, int k, int what) {
        return next().held(n, k, what);
    }

    int game(int what) {
        return next().game(what);
    }

    boolean undo() {
        return next().undo();
    }

    boolean image(boolean taken) {
        return next().image(taken);
    }

    int look(int what) {
        return next().look(what);
    }
}
