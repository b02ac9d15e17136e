/** Promises 20 to 22 and ALL WAYS at their limits: walk(), ways(), way(). */
public final class EdgesOfWaysTest {
    private static final int NONE = GrowingTiles.NONE;
    private static final int LOW = Integer.MIN_VALUE;
    private static final int HIGH = Integer.MAX_VALUE;
    private static final int SPENT = -2;
    private static final Due DUE = new Due();

    private final Unchanged clear = new Unchanged(DUE, Benches::clear);
    private final Unchanged grown = new Unchanged(DUE, Benches::grown);
    private final Unchanged full = new Unchanged(DUE, Benches::full);

    public static void main(String[] args) {
        EdgesOfWaysTest test = new EdgesOfWaysTest();
        test.walkNumbers();
        test.walkOfShapeThatHasMore();
        test.walkForty();
        test.walkSixtyTimes();
        test.walkLeavesTheSheet();
        test.walkNothing();
        test.walkOfBlocks();
        test.walkWithoutGoing();
        test.walkEachOnce();
        test.walkInRounds();
        test.walkThreeHundred();
        test.walkThreeHundredByRounds();
        test.waysEndedAndCut();
        test.waysOfSpent();
        test.waysRefused();
        test.wayRefused();
        test.wayOfLatest();
        DUE.end();
    }

    private static void is(String call, long got, long want) {
        DUE.is(call, got, want);
    }

    private static void is(String call, boolean got, boolean want) {
        DUE.is(call, got, want);
    }

    private static void areWays(String name, Bench x, int shapes, int ended, int cut, int most) {
        is("21: SHAPES, " + name, x.ways(0), shapes);
        is("21: ENDED, " + name, x.ways(1), ended);
        is("21: CUT, " + name, x.ways(2), cut);
        is("21: most PIECES, " + name, x.ways(3), most);
    }

    private void walkNumbers() {
        for (int most : new int[] {0, 41, -1, 42, -40, LOW, HIGH}) {
            clear.none("20: walk(" + most + ") of a clear SHEET", x -> x.walk(most));
            grown.none("20: walk(" + most + ")", x -> x.walk(most));
            is("20: walk(" + most + ") of a new object", new Bench().walk(most), NONE);
        }
        for (int most : new int[] {1, 2, 39, 40}) {
            is("20: walk(" + most + ") of a new object", new Bench().walk(most), 1);
        }
    }

    private void walkOfShapeThatHasMore() {
        for (int most = 1; most <= 4; most++) {
            int m = most;
            grown.none("20: THE SHAPE has 5, and at most " + most, x -> x.walk(m));
        }
        Bench x = Benches.grown();
        is("20: THE SHAPE has just so many", x.walk(5), 1);
        areWays("of five", x, 1, 0, 1, 5);
        for (int most : new int[] {1, 39, 40}) {
            full.none("20: THE SHAPE has 256, and at most " + most, y -> y.walk(most));
        }
    }

    /** 40 that come one behind the other, each to just one PLACE: two lines of 16 and 8 of a third. */
    private static Bench snake() {
        Bench x = new Bench();
        for (int i = 0; i < 40; i++) {
            int[] sides = {0, 0, 0, 0};
            if (i > 0) {
                sides[i % 16 == 0 ? 0 : i / 16 == 1 ? 1 : 3] = i;
            }
            if (i < 39) {
                sides[i % 16 == 15 ? 2 : i / 16 == 1 ? 3 : 1] = i + 1;
                x.glue(i + 1, 2);
            }
            x.piece(i == 0 ? 1 : 0, sides[0], sides[1], sides[2], sides[3], 0);
        }
        x.seed(0, 0, 0);
        return x;
    }

    private void walkForty() {
        for (int most : new int[] {1, 2, 38, 39}) {
            Bench x = snake();
            is("20: at most " + most + " of 40", x.walk(most), most);
            areWays("at most " + most, x, most, 0, 1, most);
            is("22: the last has so many", x.way(most - 1, (most - 1) / 16 == 1 ? 31 - (most - 1) : (most - 1) % 16,
                (most - 1) / 16), most - 1);
        }
        Bench x = snake();
        is("20: all 40", x.walk(40), 40);
        areWays("all 40", x, 40, 1, 0, 40);
        is("22: the last of them", x.way(39, 7, 2), 39);
        is("22: not yet in the one before", x.way(38, 7, 2), NONE);
        is("17: they come", x.grow(250), 39);
        is("20: THE SHAPE has 40", x.walk(40), 1);
        areWays("of 40", x, 1, 1, 0, 40);
        is("20: THE SHAPE has 40, and at most 39", x.walk(39), NONE);
        x.undo(1);
        is("20: 39 of 40", x.walk(40), 2);
        is("20: 39 of 39", x.walk(39), 1);
        areWays("39 of 39", x, 1, 0, 1, 39);
        x.grow(1);
        x.force(1, 15, 15);
        is("29: 41 are there", x.about(1), 41);
        is("20: THE SHAPE has 41", x.walk(40), NONE);
        areWays("still of 39", x, 1, 0, 1, 39);
    }

    private void walkSixtyTimes() {
        Bench x = Benches.plain();
        x.seed(0, 8, 8);
        for (int i = 0; i < 59; i++) {
            is("20: the " + (i + 1) + "th", x.walk(i % 5 == 0 ? 40 : 2), i % 5 == 0 ? SPENT : 5);
            is("20: those that are NONE don't count", x.walk(0) == NONE && x.walk(41) == NONE, true);
        }
        is("20: the 60th", x.walk(1), 1);
        is("20: the 61st", x.walk(2), NONE);
        areWays("of the 60th", x, 1, 0, 1, 1);
        is("20: the 62nd", x.walk(1), NONE);
        x.clear();
        is("20: nor behind clear()", x.walk(1), NONE);
        x.rule(6, 8, 2, 2, 0, 0);
        is("20: nor behind rule()", x.walk(10), NONE);
        x.back(0);
        is("20: nor behind back()", x.walk(10), NONE);
        areWays("still of the 60th", x, 1, 0, 1, 1);
        Unchanged asked = new Unchanged(DUE, EdgesOfWaysTest::asked60);
        asked.none("20: asked 60 times already", y -> y.walk(3));
    }

    private static Bench asked60() {
        Bench x = Benches.plain();
        x.seed(0, 8, 8);
        for (int i = 0; i < 60; i++) {
            x.walk(2);
        }
        return x;
    }

    private void walkLeavesTheSheet() {
        Picture before = Picture.withoutWalks(Benches::grown);
        for (int most : new int[] {5, 6, 7, 40}) {
            before.isLike(DUE, "20: walk(" + most + ") leaves all as it was", Picture.withoutWalks(() -> {
                Bench x = Benches.grown();
                x.walk(most);
                return x;
            }));
        }
        Picture ruled = Picture.withoutWalks(Benches::ruled);
        ruled.isLike(DUE, "20: walk(40) of a RULE leaves all as it was", Picture.withoutWalks(() -> {
            Bench x = Benches.ruled();
            x.walk(40);
            return x;
        }));
    }

    private void walkNothing() {
        Bench x = Benches.clear();
        is("20: of a clear SHEET", x.walk(40), 1);
        areWays("of a clear SHEET", x, 1, 1, 0, 0);
        for (int place = 0; place < 256; place++) {
            is("22: nothing is there", x.way(0, place % 16, place / 16), NONE);
        }
    }

    /** Four PLACES to the right of a SEED, filled by PIECES and BLOCKS; a BLOCK is one. */
    private void walkOfBlocks() {
        Bench x = new Bench();
        x.glue(1, 2);
        x.piece(1, 0, 1, 0, 0, 0);
        x.piece(2, 0, 1, 0, 1, 0);
        x.piece(0, 0, 1, 0, 1, 0);
        x.seed(0, 11, 9);
        int[][] want = {{1, 0, 1, 1}, {3, 0, 2, 2}, {7, 1, 3, 3}, {11, 4, 1, 4}, {12, 5, 0, 5}};
        for (int most = 1; most <= 5; most++) {
            int[] w = want[most - 1];
            is("20: at most " + most, x.walk(most), w[0]);
            areWays("at most " + most, x, w[0], w[1], w[2], w[3]);
        }
        is("20: more don't change it", x.walk(40), 12);
        is("22: the BLOCK", x.way(1, 12, 9) == 1 && x.way(1, 13, 9) == 1 && x.way(1, 14, 9) == NONE, true);
        is("22: the PIECE", x.way(2, 12, 9) == 2 && x.way(2, 13, 9) == NONE, true);
    }

    private void walkWithoutGoing() {
        Bench x = Benches.plain();
        x.piece(3, 0, 0, 0, 1, 0);
        x.piece(1, 0, 1, 0, 0, 0);
        x.seed(3, 14, 5);
        x.come(2, 15, 5);
        is("12: it might go", x.go(15, 5) && x.undo(1) == 1, true);
        is("20: WEAK ones do not go", x.walk(40), 1);
        areWays("with a WEAK one that might go", x, 1, 1, 0, 2);
        x.undo(1);
        is("20: but they come", x.walk(40) != 1, true);
    }

    /** Two that come to two PLACES: either first, and the SHAPE with both is one. */
    private void walkEachOnce() {
        Bench x = new Bench();
        x.glue(1, 2);
        x.piece(1, 1, 0, 1, 0, 0);
        x.piece(0, 0, 0, 1, 0, 0);
        x.piece(0, 1, 0, 0, 0, 0);
        x.seed(0, 5, 5);
        is("20: one, two of one more, one of both", x.walk(40), 4);
        areWays("each once", x, 4, 1, 0, 3);
        x.piece(0, 0, 0, 1, 0, 0);
        is("20: another PIECE at a PLACE is another SHAPE", x.walk(40), 6);
        areWays("with another PIECE", x, 6, 2, 0, 3);
        is("22: they differ by it", x.way(4, 5, 4) == 1 && x.way(5, 5, 4) == 3, true);
    }

    private void walkInRounds() {
        Bench x = new Bench();
        x.glue(1, 2);
        x.piece(1, 1, 1, 1, 0, 0);
        x.piece(0, 0, 0, 1, 0, 0);
        x.piece(0, 0, 0, 0, 1, 0);
        x.piece(0, 1, 0, 0, 0, 0);
        x.seed(0, 5, 5);
        is("20: three that come in any order", x.walk(40), 8);
        int[][] places = {{5, 4}, {6, 5}, {5, 6}};
        int[] sums = {0, 1, 2, 4, 3, 5, 6, 7};
        for (int k = 0; k < 8; k++) {
            int sum = 0;
            for (int i = 0; i < 3; i++) {
                sum += x.way(k, places[i][0], places[i][1]) == i + 1 ? 1 << i : 0;
            }
            is("22: SHAPE " + k + " in the order in which they are found", sum, sums[k]);
        }
    }

    /** SEEDS that hold what comes to their right, so many of them, and so many PIECES that may come to each. */
    private static Bench comb(int seeds, int pieces, int otherSeeds, int otherPieces) {
        Bench x = new Bench();
        x.glue(1, 2);
        x.glue(2, 2);
        x.piece(1, 0, 1, 0, 0, 0);
        x.piece(1, 0, 2, 0, 0, 0);
        for (int i = 0; i < pieces; i++) {
            x.piece(0, 0, 0, 0, 1, 0);
        }
        for (int i = 0; i < otherPieces; i++) {
            x.piece(0, 0, 0, 0, 2, 0);
        }
        for (int i = 0; i < seeds; i++) {
            x.seed(0, 3, i);
        }
        for (int i = 0; i < otherSeeds; i++) {
            x.seed(1, 9, i);
        }
        return x;
    }

    /** One more than THE SHAPE has: one SHAPE for each CHOICE, and itself. */
    private void walkThreeHundred() {
        int[][] combs = {{9, 33, 0, 0, 297}, {12, 24, 2, 5, 298}, {13, 23, 0, 0, 299}, {10, 30, 0, 0, 300},
            {13, 23, 2, 1, 301}, {12, 25, 0, 0, 300}, {16, 38, 0, 0, 608}};
        for (int[] c : combs) {
            Bench x = comb(c[0], c[1], c[2], c[3]);
            int seeds = c[0] + c[2];
            is("14: CHOICES", x.choices(), c[4]);
            boolean spent = c[4] > 299;
            is("20: " + (c[4] + 1) + " SHAPES", x.walk(seeds + 1), spent ? SPENT : c[4] + 1);
            areWays("of " + (c[4] + 1), x, Math.min(300, c[4] + 1), 0, spent ? 0 : c[4], seeds + 1);
            int last = Math.min(300, c[4] + 1) - 1;
            int px = x.choice(last - 1, 1);
            int py = x.choice(last - 1, 2);
            is("22: the last is by the CHOICE before it", x.way(last, px, py), x.choice(last - 1, 0));
            is("22: there is none behind it", x.way(last + 1, px, py), NONE);
        }
    }

    private void walkThreeHundredByRounds() {
        int[][] squares = {{11, 24, 300}, {12, 22, 299}, {12, 23, 312}, {14, 19, 300}, {6, 32, 231}};
        for (int[] q : squares) {
            Bench x = comb(1, q[0], 1, q[1]);
            int shapes = (q[0] + 1) * (q[1] + 1);
            boolean spent = shapes > 300;
            is("20: " + shapes + " SHAPES in three rounds", x.walk(40), spent ? SPENT : shapes);
            areWays("of " + shapes, x, Math.min(300, shapes), spent ? 0 : q[0] * q[1], 0, 4);
            is("20: at most three", x.walk(3), 1 + q[0] + q[1]);
            areWays("at most three", x, 1 + q[0] + q[1], 0, q[0] + q[1], 3);
        }
    }

    /** One has as many as may be and is ENDED, one has as many and is not. */
    private void waysEndedAndCut() {
        Bench x = new Bench();
        x.glue(1, 2);
        x.piece(1, 0, 1, 0, 0, 0);
        x.piece(0, 0, 0, 0, 1, 0);
        x.piece(0, 0, 1, 0, 1, 0);
        x.seed(0, 13, 5);
        is("20: two", x.walk(1), 1);
        areWays("at most one", x, 1, 0, 1, 1);
        is("20: an end and one that goes on", x.walk(2), 3);
        areWays("at most two", x, 3, 1, 1, 2);
        is("20: to the edge", x.walk(3), 5);
        areWays("at most three", x, 5, 3, 0, 3);
        is("20: no more come", x.walk(4), 5);
        areWays("at most four", x, 5, 3, 0, 3);
        x.come(2, 14, 5);
        is("20: from there", x.walk(3), 3);
        areWays("from there", x, 3, 2, 0, 3);
    }

    /** A SEED to whose right ten may come that end it and ten that go on; the text says in which order they are numbered. */
    private static Bench forks(String order) {
        Bench x = new Bench();
        x.glue(1, 2);
        x.piece(1, 0, 1, 0, 0, 0);
        for (int i = 0; i < order.length(); i++) {
            x.piece(0, 0, order.charAt(i) == 'e' ? 0 : 1, 0, 1, 0);
        }
        x.seed(0, 2, 2);
        return x;
    }

    /**
     * Two rounds have 1 + 20 + 200 SHAPES. In the next, three that go on bring 60 more, and the fourth one's last would be
     * the 301st: of its round only those are counted that had their turn before it.
     */
    private void waysOfSpent() {
        String[] orders = {"eeeeeeeeeegggggggggg", "ggggggggggeeeeeeeeee", "egegegegegegegegegeg", "ggeegegegegegegegege"};
        int[] endedInLastRound = {10, 0, 4, 3};
        for (int i = 0; i < orders.length; i++) {
            Bench x = forks(orders[i]);
            is("20: two rounds, " + orders[i], x.walk(3), 221);
            areWays("two rounds, " + orders[i], x, 221, 10 + 100, 100, 3);
            for (int most : new int[] {4, 5, 40}) {
                is("20: SPENT, " + orders[i], x.walk(most), SPENT);
                areWays("SPENT, " + orders[i], x, 300, 10 + endedInLastRound[i], 0, 4);
            }
        }
        Bench x = comb(10, 30, 0, 0);
        is("20: SPENT in the first round", x.walk(11), SPENT);
        areWays("in the first round", x, 300, 0, 0, 11);
        is("20: not SPENT behind it", x.walk(10), 1);
        areWays("behind it", x, 1, 0, 1, 10);
    }

    private void waysRefused() {
        for (int what = -1; what <= 4; what++) {
            is("21: without a walk() what " + what, new Bench().ways(what), NONE);
        }
        Bench x = new Bench();
        x.walk(0);
        x.walk(41);
        is("21: NONE is no walk()", x.ways(0), NONE);
        is("22: nor has it SHAPES", x.way(0, 0, 0), NONE);
        for (int what : new int[] {-1, 4, 5, LOW, HIGH}) {
            grown.none("21: what " + what, y -> y.ways(what));
        }
        Bench y = Benches.plain();
        y.seed(0, 0, 0);
        y.walk(2);
        areWays("in a corner", y, 3, 0, 2, 2);
    }

    private void wayRefused() {
        Bench x = Benches.plain();
        is("22: without a walk()", x.way(0, 8, 8), NONE);
        x.seed(0, 8, 8);
        is("20: five SHAPES", x.walk(2), 5);
        is("22: the first", x.way(0, 8, 8), 0);
        is("22: the last", x.way(4, 8, 9), 1);
        for (int k : new int[] {-1, 5, 6, 299, 300, LOW, HIGH}) {
            is("22: no SHAPE " + k, x.way(k, 8, 8), NONE);
        }
        int[][] beyond = {{-1, 8}, {16, 8}, {8, -1}, {8, 16}, {LOW, 8}, {8, HIGH}, {8 + 256, 8}, {-8, 9}, {24, 7}};
        for (int[] place : beyond) {
            is("22: beyond: " + place[0] + ", " + place[1], x.way(0, place[0], place[1]), NONE);
        }
        is("22: nothing there", x.way(0, 8, 9), NONE);
        for (int corner = 0; corner < 4; corner++) {
            Bench y = Benches.plain();
            y.seed(0, 15 * (corner % 2), 15 * (corner / 2));
            is("20: in the corner", y.walk(2), 3);
            is("22: the corner", y.way(2, 15 * (corner % 2), 15 * (corner / 2)), 0);
            is("22: beside it", y.way(1, corner % 2 == 0 ? 1 : 14, 15 * (corner / 2)) == 1
                || y.way(2, corner % 2 == 0 ? 1 : 14, 15 * (corner / 2)) == 1, true);
        }
        grown.none("22: no SHAPE -1", y -> y.way(-1, 3, 3));
        grown.none("22: beyond", y -> y.way(0, 16, 3));
    }

    /** The latest walk() that was not NONE, whatever comes behind it. */
    private void wayOfLatest() {
        Bench x = Benches.plain();
        x.piece(2, 1, 1, 1, 1, 65);
        x.seed(0, 8, 8);
        x.come(2, 9, 8);
        is("20: a BLOCK's and a SEED's sides", x.walk(3), 1 + 8 + 10);
        int[] shapes = new int[19];
        for (int k = 0; k < 19; k++) {
            shapes[k] = shapeOf(x, k);
        }
        x.walk(2 + 40);
        x.walk(1);
        x.undo(1);
        x.clear();
        x.back(0);
        x.rule(1, 2, 3, 4, 5, 6);
        x.grow(4);
        x.keep(1);
        for (int k = 0; k < 19; k++) {
            is("22: SHAPE " + k + " as it was", shapeOf(x, k), shapes[k]);
        }
        is("21: as many", x.ways(0), 19);
        x.walk(20);
        is("22: the next that is not NONE", x.way(0, 9, 8), NONE);
    }

    private static int shapeOf(Bench x, int k) {
        int sum = 0;
        for (int place = 0; place < 9; place++) {
            sum = 5 * sum + x.way(k, 7 + place % 3, 7 + place / 3) + 2;
        }
        return sum;
    }
}
