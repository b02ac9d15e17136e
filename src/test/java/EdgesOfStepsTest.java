/** Promises 26 to 29 at their limits: undo(), keep(), back(), about(). */
public final class EdgesOfStepsTest {
    private static final int NONE = GrowingTiles.NONE;
    private static final int LOW = Integer.MIN_VALUE;
    private static final int HIGH = Integer.MAX_VALUE;
    private static final Due DUE = new Due();

    private final Unchanged clear = new Unchanged(DUE, Benches::clear);
    private final Unchanged grown = new Unchanged(DUE, Benches::grown);
    private final Unchanged full = new Unchanged(DUE, Benches::full);

    public static void main(String[] args) {
        EdgesOfStepsTest test = new EdgesOfStepsTest();
        test.undoRefused();
        test.undoIsAsIfNotDone();
        test.undoOneByOne();
        test.undoTwoHundred();
        test.undoAndDoAgain();
        test.undoBehindClearAndBack();
        test.keepAndBackRefused();
        test.keepOneImage();
        test.keepIsNotChangedLater();
        test.backIsAllOfAnImage();
        test.backToHighestBlock();
        test.backToOtherKinds();
        test.backForgetsSteps();
        test.backLeavesTapeAndWalk();
        test.aboutRefused();
        test.aboutLimits();
        test.aboutSteps();
        DUE.end();
    }

    private static void is(String call, long got, long want) {
        DUE.is(call, got, want);
    }

    private static void is(String call, boolean got, boolean want) {
        DUE.is(call, got, want);
    }

    private void undoRefused() {
        for (int n : new int[] {-1, 8, 9, -7, 200, 201, LOW, HIGH}) {
            grown.none("26: undo(" + n + ") of 7", x -> x.undo(n));
        }
        for (int n : new int[] {-1, 1, LOW, HIGH}) {
            clear.none("26: undo(" + n + ") of none", x -> x.undo(n));
        }
        for (int n : new int[] {-1, 201, 256, 257, HIGH}) {
            full.none("26: undo(" + n + ") of 256, the last 200", x -> x.undo(n));
        }
        grown.by("26: undo(0)", x -> x.undo(0), 0);
        clear.by("26: undo(0) of none", x -> x.undo(0), 0);
        full.by("26: undo(0) of 256", x -> x.undo(0), 0);
        is("26: undo(7) of 7", Benches.grown().undo(7), 7);
        is("26: undo(200) of 256", Benches.full().undo(200), 200);
    }

    /** Each sort of STEP, UNDONE at once: nothing is left of it. */
    private void undoIsAsIfNotDone() {
        grown.by("26: one that came", x -> x.come(1, 4, 4) ? x.undo(1) : NONE, 1);
        grown.by("26: a BLOCK that came", x -> x.come(2, 7, 4) ? x.undo(1) : NONE, 1);
        grown.by("26: a WEAK one that came", x -> x.come(3, 4, 4) ? x.undo(1) : NONE, 1);
        grown.by("26: one FORCED", x -> x.force(1, 0, 0) ? x.undo(1) : NONE, 1);
        grown.by("26: a BLOCK FORCED", x -> x.force(2, 14, 15) ? x.undo(1) : NONE, 1);
        grown.by("26: a STOP FORCED", x -> x.force(6, 4, 4) ? x.undo(1) : NONE, 1);
        grown.by("26: three at once", x -> x.come(1, 4, 4) && x.force(6, 3, 4) && x.come(2, 7, 4) ? x.undo(3) : NONE, 3);
        clear.by("26: a SEED", x -> x.seed(0, 9, 9) ? x.undo(1) : NONE, 1);
        clear.by("26: a SEED and what came", x -> x.seed(0, 9, 9) && x.come(1, 9, 8) ? x.undo(2) : NONE, 2);
        clear.by("26: a WEAK one that came and went", x -> x.seed(0, 9, 9) && x.come(3, 9, 8) && x.go(9, 8)
            ? x.undo(3) : NONE, 3);
        Unchanged weak = new Unchanged(DUE, EdgesOfStepsTest::withWeak);
        weak.by("26: one that went", x -> x.go(6, 5) ? x.undo(1) : NONE, 1);
        weak.by("26: one that went and another that came", x -> x.go(6, 5) && x.come(1, 6, 5) ? x.undo(2) : NONE, 2);
    }

    private static Bench withWeak() {
        Bench x = Benches.clear();
        x.seed(0, 5, 5);
        x.come(3, 6, 5);
        x.come(1, 5, 4);
        return x;
    }

    private void undoOneByOne() {
        Bench x = Benches.grown();
        int[] left = {4, 5, 4, 3, 2, 1, 0};
        for (int i = 0; i < 7; i++) {
            is("26: undo(1), the " + (i + 1) + "th time", x.undo(1), 1);
            is("29: on THE SHEET", x.about(1), left[i]);
            is("29: STEPS", x.about(3) == 6 - i && x.about(4) == 6 - i, true);
        }
        is("26: none is left", x.undo(1), NONE);
        is("6: THE SHEET is clear", x.warmth(3), true);
    }

    private void undoTwoHundred() {
        for (int steps : new int[] {199, 200, 201, 202, 255}) {
            Bench x = Benches.plain();
            x.seed(0, 8, 8);
            x.grow(Math.min(250, steps - 1));
            x.grow(Math.max(0, steps - 251));
            int can = Math.min(200, steps);
            is("29: STEPS", x.about(3), steps);
            is("29: to be UNDONE", x.about(4), can);
            is("26: one more than can be", x.undo(can + 1), NONE);
            is("29: nothing changed", x.about(1), steps);
            is("26: all that can be", x.undo(can), can);
            is("29: the others stay", x.about(1), steps - can);
            is("29: their STEPS, too", x.about(3), steps - can);
            is("29: none can be", x.about(4), 0);
            is("26: nor one", x.undo(1), NONE);
        }
        Bench x = Benches.full();
        x.undo(200);
        for (int place = 0; place < 256; place++) {
            is("26: the first 56 stay", x.of(place % 16, place / 16, 3) < 56, true);
        }
    }

    /** UNDONE in part and grown on: what can be UNDONE is what was made since, and what was left. */
    private void undoAndDoAgain() {
        Bench x = Benches.full();
        x.undo(150);
        is("29: 50 can be", x.about(3) == 106 && x.about(4) == 50, true);
        x.grow(100);
        is("29: 150 can be", x.about(3) == 206 && x.about(4) == 150, true);
        x.grow(49);
        is("29: 199 can be", x.about(3) == 255 && x.about(4) == 199, true);
        x.grow(1);
        is("29: 200 can be", x.about(3) == 256 && x.about(4) == 200, true);
        is("26: undo(200)", x.undo(200), 200);
        is("29: 56 are left", x.about(1) == 56 && x.about(3) == 56, true);
        x.grow(200);
        is("29: 200 can be", x.about(4), 200);
        Bench y = Benches.plain();
        y.seed(0, 8, 8);
        for (int i = 0; i < 150; i++) {
            y.force(1, 0, 0);
            y.undo(1);
        }
        is("29: what is UNDONE takes no room", y.about(3) == 1 && y.about(4) == 1, true);
        is("26: the SEED can be UNDONE", y.undo(1), 1);
        weakOverTwoHundred();
    }

    /** One WEAK PIECE that comes and goes 105 times: 211 STEPS with at most two on THE SHEET. */
    private void weakOverTwoHundred() {
        Bench x = Benches.plain();
        x.piece(3, 1, 1, 1, 1, 0);
        x.seed(0, 8, 8);
        for (int i = 0; i < 105; i++) {
            x.come(2, 8, 9);
            x.go(8, 9);
        }
        is("29: STEPS that came and went", x.about(3), 211);
        is("29: the last 200", x.about(4), 200);
        is("26: undo(1)", x.undo(1), 1);
        is("19: it is back as before", x.of(8, 9, 3), 209);
        is("26: undo(198)", x.undo(198), 198);
        is("18: it went with the 11th", x.at(8, 9), 2);
        is("19: it had come with the STEP before", x.of(8, 9, 3), 11);
        is("26: undo(1)", x.undo(1), 1);
        is("18: away", x.at(8, 9), NONE);
        is("29: 11 STEPS", x.about(3), 11);
        is("26: no more", x.undo(1), NONE);
    }

    private void undoBehindClearAndBack() {
        Bench x = Benches.grown();
        x.keep(0);
        x.back(0);
        is("26: undo(1) behind back()", x.undo(1), NONE);
        is("26: undo(0) behind back()", x.undo(0), 0);
        x.come(1, 4, 4);
        is("26: undo(2) of one behind back()", x.undo(2), NONE);
        is("26: undo(1) of one behind back()", x.undo(1), 1);
        is("29: what was brought back stays", x.about(1), 5);
        x.clear();
        is("26: undo(1) behind clear()", x.undo(1), NONE);
        x.rule(6, 8, 4, 3, 0, 0);
        is("26: undo(8) of a RULE's 7", x.undo(8), NONE);
        is("26: undo(7) of a RULE's 7", x.undo(7), 7);
    }

    private void keepAndBackRefused() {
        for (int k : new int[] {-1, 3, 4, -2, LOW, HIGH}) {
            clear.refused("27: keep(" + k + ") of a clear SHEET", x -> x.keep(k));
            grown.refused("27: keep(" + k + ")", x -> x.keep(k));
            clear.refused("28: back(" + k + ") to a clear SHEET", x -> x.back(k));
            grown.refused("28: back(" + k + ")", x -> x.back(k));
        }
        for (int k = 0; k < 3; k++) {
            is("27: keep(" + k + ")", Benches.grown().keep(k), true);
            is("28: back(" + k + ")", Benches.grown().back(k), true);
        }
    }

    /** keep() changes its own IMAGE and nothing else. */
    private void keepOneImage() {
        for (int k = 0; k < 3; k++) {
            int image = k;
            Picture.ofSheet(Benches::grown).isLike(DUE, "27: keep(" + k + ") leaves things as they are",
                Picture.ofSheet(() -> {
                    Bench x = Benches.grown();
                    x.keep(image);
                    return x;
                }));
            for (int other = 0; other < 3; other++) {
                if (other != k) {
                    keepLeavesOther(k, other);
                }
            }
        }
    }

    /** IMAGE k is at last as the other in both, so that all that can differ is the other. */
    private void keepLeavesOther(int k, int other) {
        Picture without = Picture.of(() -> {
            Bench x = Benches.grown();
            x.back(other);
            x.keep(k);
            return x;
        });
        without.isLike(DUE, "27: keep(" + k + ") leaves IMAGE " + other, Picture.of(() -> {
            Bench x = Benches.grown();
            x.keep(k);
            x.back(other);
            x.keep(k);
            return x;
        }));
    }

    private void keepIsNotChangedLater() {
        for (int k = 0; k < 3; k++) {
            Bench x = Benches.grown();
            x.keep(k);
            x.clear();
            x.glue(1, 3);
            x.glue(2, 0);
            x.warmth(3);
            x.piece(0, 0, 0, 0, 0, 0);
            x.seed(0, 15, 15);
            for (int round = 0; round < 2; round++) {
                is("28: back(" + k + ")", x.back(k), true);
                is("28: PIECES", x.about(0), 7);
                is("28: on THE SHEET", x.about(1), 5);
                is("28: THE WARMTH", x.about(2), 1);
                is("28: GLUE 1", x.hold(1, 4, 4), 2);
                is("28: a BLOCK's halves", x.of(5, 4, 0) == 2 && x.of(6, 4, 0) == 7, true);
                is("28: what was not there", x.at(15, 15), NONE);
                x.come(1, 4, 4);
                x.piece(0, 0, 0, 0, 0, 0);
            }
        }
    }

    /** All of an IMAGE is brought back: what follows is as it was, but for the STEPS. */
    private void backIsAllOfAnImage() {
        Picture before = Picture.of(() -> {
            Bench x = Benches.grown();
            x.keep(0);
            x.back(0);
            return x;
        });
        before.isLike(DUE, "28: all as it was, whatever came between", Picture.of(() -> {
            Bench x = Benches.grown();
            x.keep(0);
            x.rule(15, 15, 9, 9, 3, 3);
            x.draw(LOW);
            x.grow(40);
            x.back(0);
            return x;
        }));
        before.isLike(DUE, "28: all as it was, when it was clear between", Picture.of(() -> {
            Bench x = Benches.grown();
            x.keep(0);
            x.clear();
            for (int glue = 1; glue <= 50; glue++) {
                x.glue(glue, glue % 4);
            }
            x.warmth(3);
            for (int i = 0; i < 40; i++) {
                x.piece(i % 5, 1, 2, 3, 4, 0);
            }
            x.draw(-1);
            x.back(0);
            return x;
        }));
        fullImage();
    }

    private void fullImage() {
        Bench x = Benches.full();
        x.keep(2);
        x.clear();
        x.back(2);
        is("28: a full SHEET", x.about(1), 256);
        is("14: no CHOICES", x.choices(), 0);
        is("7: it is cleared", x.clear(), 256);
        Bench y = new Bench();
        for (int i = 0; i < 40; i++) {
            y.piece(5, 0, 0, 0, 0, 16 + i);
        }
        y.keep(1);
        y.back(0);
        is("29: no PIECES", y.about(0), 0);
        y.back(1);
        is("29: 40 PIECES", y.about(0), 40);
        is("3: no more", y.piece(0, 0, 0, 0, 0, 0), NONE);
        is("19: the last one's MARK", y.force(39, 3, 3) ? y.of(3, 3, 1) : NONE, 3);
    }

    /** PIECE 39 is a BLOCK with a GLUE at each of its six SIDES. */
    private void backToHighestBlock() {
        Bench x = new Bench();
        x.glue(50, 1);
        x.piece(0, 50, 50, 50, 50, 0);
        for (int i = 1; i < 39; i++) {
            x.piece(0, 0, 0, 0, 0, 0);
        }
        x.piece(2, 50, 50, 50, 50, 3250);
        x.force(39, 5, 5);
        x.keep(1);
        x.back(0);
        for (int i = 0; i < 40; i++) {
            x.piece(2, 1, 2, 3, 4, 0);
        }
        x.back(1);
        int[][] beside = {{5, 4}, {7, 5}, {5, 6}, {4, 5}, {6, 4}, {6, 6}};
        for (int[] place : beside) {
            is("28: a BLOCK's side at " + place[0] + ", " + place[1], x.hold(0, place[0], place[1]), 1);
        }
        is("10: another BLOCK to its right", x.hold(39, 7, 5), 1);
        is("10: another BLOCK above both its PLACES", x.hold(39, 5, 4), 2);
        is("18: its other PLACE", x.at(6, 5), 39);
    }

    /** The numbers are of other KINDS in an IMAGE than they are when it is brought back. */
    private void backToOtherKinds() {
        for (int kind = 0; kind <= 5; kind++) {
            Bench x = new Bench();
            x.glue(1, 2);
            x.piece(1, 0, 1, 0, 0, 0);
            x.piece(0, 0, 0, 0, 1, 0);
            x.piece(0, 0, 0, 0, 1, 0);
            x.keep(0);
            x.back(1);
            for (int i = 0; i < 3; i++) {
                x.piece(kind, 0, 0, 0, 0, kind == 4 ? 15 : kind == 5 ? 31 : 0);
            }
            x.keep(2);
            x.back(0);
            is("28: a SEED again", x.seed(0, 5, 5), true);
            is("28: two that may come again", x.choices(), 2);
            is("28: and a rival again", x.come(1, 6, 5) ? x.orderly() : NONE, -3 - 4 * (6 + 16 * 5));
            x.back(2);
            is("28: the other KIND again", kind == 1 ? x.seed(2, 3, 3) : x.force(2, 3, 3), true);
            is("28: its KIND", x.of(3, 3, 0), kind);
        }
        Bench y = new Bench();
        y.glue(1, 2);
        y.piece(1, 0, 1, 0, 0, 0);
        y.piece(0, 0, 0, 0, 1, 0);
        y.keep(0);
        y.piece(4, 0, 0, 0, 1, 0);
        y.keep(1);
        y.back(0);
        y.piece(0, 0, 0, 0, 1, 0);
        y.back(1);
        y.seed(0, 5, 5);
        is("28: a STOP is no rival, though its number was", y.come(1, 6, 5) ? y.orderly() : NONE, 1);
        Bench x = Benches.clear();
        x.seed(0, 5, 5);
        x.come(3, 6, 5);
        x.keep(0);
        x.back(0);
        is("28: a SEED and a WEAK one", x.seed(0, 9, 9), false);
        is("28: it goes", x.go(6, 5), true);
        is("28: a SEED alone", x.seed(0, 9, 9), true);
    }

    private void backForgetsSteps() {
        Bench x = Benches.full();
        x.keep(0);
        x.back(0);
        is("29: no STEPS", x.about(3), 0);
        is("29: none to be UNDONE", x.about(4), 0);
        is("26: undo(1)", x.undo(1), NONE);
        for (int place = 0; place < 256; place++) {
            is("19: no STEP is told", x.of(place % 16, place / 16, 3), NONE);
        }
        is("23: nor is it asked whether it is ORDERLY", x.orderly(), NONE);
        Bench y = Benches.seeded();
        y.keep(0);
        y.back(0);
        y.seed(0, 1, 1);
        y.come(1, 1, 2);
        is("29: STEPS since", y.about(3) == 2 && y.about(4) == 2, true);
        is("19: from 0 on", y.of(1, 1, 3) == 0 && y.of(1, 2, 3) == 1, true);
    }

    private void backLeavesTapeAndWalk() {
        Bench x = Benches.clear();
        int shapes = x.ways(0);
        for (int k = 0; k < 3; k++) {
            x.back(k);
            is("28: the TAPE is in no IMAGE", x.about(5), 40);
            is("28: nor the latest walk()", x.ways(0), shapes);
            is("28: nor its SHAPES", x.way(0, 4, 3), 2);
        }
        x.back(0);
        is("5: the TAPE is as it was", x.set(40), 5);
        x.back(1);
        is("29: empty now", x.about(5), 0);
    }

    private void aboutRefused() {
        for (int what : new int[] {-1, 6, 7, LOW, HIGH}) {
            grown.none("29: what " + what, x -> x.about(what));
            is("29: what " + what + " of a new object", new Bench().about(what), NONE);
        }
        int[] want = {7, 5, 1, 7, 7, 40};
        for (int what = 0; what <= 5; what++) {
            int w = what;
            grown.by("29: what " + what, x -> x.about(w), want[what]);
        }
    }

    private void aboutLimits() {
        Bench x = new Bench();
        for (int i = 0; i <= 41; i++) {
            is("29: PIECES", x.about(0), Math.min(40, i));
            x.piece(0, 0, 0, 0, 0, 0);
        }
        for (int i = 0; i <= 21; i++) {
            is("29: bytes on the TAPE", x.about(5), Math.min(400, 20 * i));
            x.feed(0, 0, 0, 0, 0);
        }
        x.set(0);
        is("29: none", x.about(5), 0);
        for (int warmth = 0; warmth <= 4; warmth++) {
            boolean can = x.warmth(warmth);
            is("29: THE WARMTH", x.about(2), can ? warmth : warmth == 0 ? 2 : 3);
        }
        Bench y = Benches.full();
        is("29: 256 on THE SHEET", y.about(1), 256);
        is("29: 256 STEPS", y.about(3), 256);
        is("29: 200 to be UNDONE", y.about(4), 200);
    }

    private void aboutSteps() {
        Bench x = Benches.clear();
        int[] steps = new int[8];
        x.seed(0, 5, 5);
        steps[0] = x.about(3);
        x.come(3, 6, 5);
        steps[1] = x.about(3);
        x.go(6, 5);
        steps[2] = x.about(3);
        x.force(1, 0, 0);
        steps[3] = x.about(3);
        x.grow(3);
        steps[4] = x.about(3);
        x.undo(2);
        steps[5] = x.about(3);
        x.walk(40);
        x.keep(0);
        steps[6] = x.about(3);
        x.back(0);
        steps[7] = x.about(3);
        int[] want = {1, 2, 3, 4, 7, 5, 5, 0};
        for (int i = 0; i < 8; i++) {
            is("29: STEPS, " + i, steps[i], want[i]);
        }
        x.grow(2);
        is("29: STEPS since it was brought back", x.about(3), 2);
        x.clear();
        is("29: STEPS since it was clear", x.about(3), 0);
        x.seed(0, 5, 5);
        is("29: the first since", x.about(3), 1);
        x.undo(1);
        is("29: UNDONE", x.about(3), 0);
    }
}
