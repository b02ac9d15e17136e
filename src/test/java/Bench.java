/**
 * A GrowingTiles that counts its calls: what one answers behind its 512th call is free, so a test that asks for it is
 * wrong itself, and ends.
 */
final class Bench {
    static final int MOST_CALLS = 512;

    private final GrowingTiles tiles = new GrowingTiles();
    private int calls = 0;

    private GrowingTiles asked() {
        calls++;
        if (calls > MOST_CALLS) {
            throw new IllegalStateException("the test asks one object more than " + MOST_CALLS + " times");
        }
        return tiles;
    }

    int callsLeft() {
        return MOST_CALLS - calls;
    }

    boolean glue(int glue, int strength) {
        return asked().glue(glue, strength);
    }

    int piece(int kind, int above, int right, int below, int left, int more) {
        return asked().piece(kind, above, right, below, left, more);
    }

    int feed(int a, int b, int c, int d, int e) {
        return asked().feed(a, b, c, d, e);
    }

    int set(int n) {
        return asked().set(n);
    }

    boolean warmth(int warmth) {
        return asked().warmth(warmth);
    }

    int clear() {
        return asked().clear();
    }

    boolean seed(int piece, int x, int y) {
        return asked().seed(piece, x, y);
    }

    boolean may(int piece, int x, int y) {
        return asked().may(piece, x, y);
    }

    int hold(int piece, int x, int y) {
        return asked().hold(piece, x, y);
    }

    boolean come(int piece, int x, int y) {
        return asked().come(piece, x, y);
    }

    boolean go(int x, int y) {
        return asked().go(x, y);
    }

    boolean force(int piece, int x, int y) {
        return asked().force(piece, x, y);
    }

    int choices() {
        return asked().choices();
    }

    int choice(int k, int what) {
        return asked().choice(k, what);
    }

    void draw(long s) {
        asked().draw(s);
    }

    int grow(int n) {
        return asked().grow(n);
    }

    int at(int x, int y) {
        return asked().at(x, y);
    }

    int of(int x, int y, int what) {
        return asked().of(x, y, what);
    }

    int walk(int most) {
        return asked().walk(most);
    }

    int ways(int what) {
        return asked().ways(what);
    }

    int way(int k, int x, int y) {
        return asked().way(k, x, y);
    }

    int orderly() {
        return asked().orderly();
    }

    int rule(int f, int g, int c, int r, int row, int column) {
        return asked().rule(f, g, c, r, row, column);
    }

    int row(int y, int c) {
        return asked().row(y, c);
    }

    int undo(int n) {
        return asked().undo(n);
    }

    boolean keep(int k) {
        return asked().keep(k);
    }

    boolean back(int k) {
        return asked().back(k);
    }

    int about(int what) {
        return asked().about(what);
    }
}
