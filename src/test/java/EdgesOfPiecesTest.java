/** Promises 1 to 7 and the terms behind them at their limits: GLUES, PIECES, the TAPE, THE WARMTH, clear(). */
public final class EdgesOfPiecesTest {
    private static final int NONE = GrowingTiles.NONE;
    private static final int LOW = Integer.MIN_VALUE;
    private static final int HIGH = Integer.MAX_VALUE;
    private static final Due DUE = new Due();
    /** MORE that is right for each KIND. */
    private static final int[] MORE = {0, 0, 0, 0, 0, 16};

    private final Unchanged clear = new Unchanged(DUE, Benches::clear);
    private final Unchanged grown = new Unchanged(DUE, Benches::grown);
    private final Unchanged seeded = new Unchanged(DUE, Benches::seeded);

    public static void main(String[] args) {
        EdgesOfPiecesTest test = new EdgesOfPiecesTest();
        test.newObject();
        test.imagesOfNewObject();
        test.fiveHundredAndTwelveCalls();
        test.glueNumbers();
        test.glueStrengths();
        test.glueOnSheetNotClear();
        test.zeroIsNoGlue();
        test.pieceKinds();
        test.pieceSides();
        test.pieceMore();
        test.pieceSidesOfBlock();
        test.pieceMarks();
        test.pieceBars();
        test.pieceForty();
        test.pieceOnSheetNotClear();
        test.feedFourHundred();
        test.feedHighestFirst();
        test.setLengths();
        test.setRefused();
        test.setFirstThatCannotBe();
        test.setMoreOfTwoBytes();
        test.setForty();
        test.setEmptiesTape();
        test.warmthLimits();
        test.warmthOnSheetNotClear();
        test.clearCounts();
        test.clearForgetsSteps();
        test.clearLeavesTheRest();
        DUE.end();
    }

    private static void is(String call, long got, long want) {
        DUE.is(call, got, want);
    }

    private static void is(String call, boolean got, boolean want) {
        DUE.is(call, got, want);
    }

    /** The STRENGTH of a GLUE, by a PIECE more that shows it; THE SHEET must be clear and is so then. */
    private static int strengthOf(Bench x, int glue) {
        int piece = x.piece(0, glue, 0, glue, 0, 0);
        x.force(piece, 8, 8);
        int strength = x.hold(piece, 8, 9);
        x.clear();
        return strength;
    }

    private void newObject() {
        int[] want = {0, 0, 2, 0, 0, 0};
        Bench x = new Bench();
        for (int what = 0; what < 6; what++) {
            is("1: about(" + what + ") of a new object", x.about(what), want[what]);
        }
        is("1: no PIECE 0", x.hold(0, 5, 5), NONE);
        is("1: no CHOICES", x.choices(), 0);
        is("1: no latest walk()", x.ways(0), NONE);
        is("1: no STEPS to be UNDONE", x.undo(1), NONE);
        for (int place = 0; place < 256; place++) {
            is("1: THE SHEET is clear", x.at(place % 16, place / 16), NONE);
        }
        for (int half = 0; half < 2; half++) {
            Bench y = new Bench();
            for (int glue = 1 + 25 * half; glue <= 25 + 25 * half; glue++) {
                is("1: STRENGTH of GLUE " + glue, strengthOf(y, glue), 0);
            }
        }
        Bench drawn = Benches.plain();
        Bench zero = Benches.plain();
        zero.draw(0);
        drawn.seed(0, 8, 8);
        zero.seed(0, 8, 8);
        drawn.grow(20);
        zero.grow(20);
        for (int place = 0; place < 256; place++) {
            is("1: s is 0", drawn.of(place % 16, place / 16, 3), zero.of(place % 16, place / 16, 3));
        }
    }

    private void imagesOfNewObject() {
        for (int k = 0; k < 3; k++) {
            int image = k;
            Picture fresh = Picture.of(Bench::new);
            Picture brought = Picture.of(() -> {
                Bench x = Benches.plain();
                x.glue(50, 3);
                x.draw(99);
                x.seed(0, 8, 8);
                x.grow(3);
                x.back(image);
                return x;
            });
            fresh.isLike(DUE, "1: IMAGE " + k + " is of a new object", brought);
        }
    }

    private void fiveHundredAndTwelveCalls() {
        Bench x = Benches.plain();
        x.seed(0, 8, 8);
        for (int i = 0; i < 251; i++) {
            is("11: the object's " + (2 * i + 6) + "th call", x.come(1, 8, 9), true);
            is("26: and the next", x.undo(1), 1);
        }
        is("17: its 508th", x.grow(5), 5);
        is("29: its 509th", x.about(3), 6);
        is("20: its 510th", x.walk(6), 1);
        is("23: its 511th", x.orderly() != NONE, true);
        is("7: its 512th", x.clear(), 6);
    }

    private void glueNumbers() {
        for (int glue : new int[] {1, 2, 49, 50}) {
            Bench x = new Bench();
            is("2: glue(" + glue + ", 1)", x.glue(glue, 1), true);
            is("2: it has the STRENGTH", strengthOf(x, glue), 1);
            is("2: the one below has none", strengthOf(x, glue == 1 ? 50 : glue - 1), 0);
            is("2: the one above has none", strengthOf(x, glue == 50 ? 1 : glue + 1), 0);
        }
        for (int glue : new int[] {0, 51, -1, 52, 64, 101, LOW, LOW + 1, HIGH, HIGH - 1}) {
            clear.refused("2: glue(" + glue + ", 1)", x -> x.glue(glue, 1));
        }
        for (int half = 0; half < 2; half++) {
            Bench x = new Bench();
            for (int glue = 1; glue <= 50; glue++) {
                is("2: glue(" + glue + ", " + glue % 4 + ")", x.glue(glue, glue % 4), true);
            }
            for (int glue = 1 + 25 * half; glue <= 25 + 25 * half; glue++) {
                is("2: each its own STRENGTH: " + glue, strengthOf(x, glue), glue % 4);
            }
        }
    }

    private void glueStrengths() {
        Bench x = new Bench();
        for (int strength : new int[] {3, 2, 1, 0, 3, 0}) {
            is("2: glue(7, " + strength + ")", x.glue(7, strength), true);
            is("2: STRENGTH " + strength, strengthOf(x, 7), strength);
        }
        for (int strength : new int[] {-1, 4, -2, 5, LOW, HIGH}) {
            clear.refused("2: glue(1, " + strength + ")", y -> y.glue(1, strength));
            clear.refused("2: glue(50, " + strength + ")", y -> y.glue(50, strength));
        }
        clear.refused("2: glue(0, 4), both can't be", y -> y.glue(0, 4));
    }

    private void glueOnSheetNotClear() {
        for (int strength = 0; strength <= 3; strength++) {
            int strong = strength;
            seeded.refused("2: SEEDS are there: glue(1, " + strength + ")", x -> x.glue(1, strong));
            grown.refused("2: PIECES are there: glue(9, " + strength + ")", x -> x.glue(9, strong));
        }
        for (int corner = 0; corner < 4; corner++) {
            Bench x = Benches.plain();
            x.seed(0, 15 * (corner % 2), 15 * (corner / 2));
            is("2: one in a corner alone", x.glue(2, 1), false);
            x.undo(1);
            is("2: it is UNDONE", x.glue(2, 1), true);
        }
        Bench x = Benches.plain();
        x.force(1, 3, 3);
        is("2: one FORCED alone", x.glue(1, 3), false);
        x.keep(0);
        x.clear();
        is("2: clear", x.glue(1, 3), true);
        x.back(0);
        is("2: brought back", x.glue(1, 2), false);
        is("2: the STRENGTH it had", x.hold(1, 3, 4), 1);
        x.back(1);
        is("2: a clear SHEET brought back", x.glue(1, 2), true);
    }

    private void zeroIsNoGlue() {
        Bench x = new Bench();
        for (int glue = 1; glue <= 50; glue++) {
            x.glue(glue, 3);
        }
        x.warmth(1);
        x.piece(1, 0, 0, 0, 0, 0);
        x.piece(0, 0, 0, 0, 0, 0);
        x.piece(2, 0, 0, 0, 0, 0);
        x.seed(0, 8, 8);
        for (int d = 0; d < 4; d++) {
            is("10: 0 and 0 don't HOLD", x.hold(1, 8 + Benches.DX[d], 8 + Benches.DY[d]), 0);
            is("9: nor does one come so", x.may(1, 8 + Benches.DX[d], 8 + Benches.DY[d]), false);
        }
        is("10: nor those of a BLOCK", x.hold(2, 9, 8) + x.hold(2, 6, 8) + x.hold(2, 7, 7) + x.hold(2, 8, 9), 0);
        is("14: no CHOICES", x.choices(), 0);
    }

    private void pieceKinds() {
        Bench x = new Bench();
        for (int kind = 0; kind <= 5; kind++) {
            is("3: KIND " + kind, x.piece(kind, 0, 0, 0, 0, MORE[kind]), kind);
        }
        for (int kind = 0; kind <= 5; kind++) {
            is("3: it is there", kind == 1 ? x.seed(kind, 0, 0) : x.force(kind, 2 * kind, 2), true);
            is("19: of that KIND", kind == 1 ? x.of(0, 0, 0) : x.of(2 * kind, 2, 0), kind);
            x.clear();
        }
        for (int kind : new int[] {-1, 6, 7, -2, 8, LOW, HIGH}) {
            clear.none("3: KIND " + kind, y -> y.piece(kind, 1, 1, 1, 1, 0));
            clear.none("3: KIND " + kind + " with MORE", y -> y.piece(kind, 1, 1, 1, 1, 16));
        }
    }

    private void pieceSides() {
        for (int kind = 0; kind <= 5; kind++) {
            Bench x = new Bench();
            for (int d = 0; d < 4; d++) {
                is("3: 50 at side " + d, pieceWith(x, kind, d, 50), 3 * d);
                is("3: 1 at side " + d, pieceWith(x, kind, d, 1), 3 * d + 1);
                is("3: 0 at side " + d, pieceWith(x, kind, d, 0), 3 * d + 2);
                for (int glue : new int[] {51, -1}) {
                    int k = kind;
                    int side = d;
                    clear.none("3: " + glue + " at side " + d + " of KIND " + kind, y -> pieceWith(y, k, side, glue));
                }
                for (int glue : new int[] {63, 64, 114, LOW, HIGH, -50}) {
                    is("3: " + glue + " at side " + d + " of KIND " + kind, pieceWith(x, kind, d, glue), NONE);
                }
            }
            is("3: nothing came of those", x.about(0), 12);
        }
        Bench x = new Bench();
        x.glue(50, 2);
        x.piece(1, 50, 50, 50, 50, 0);
        for (int d = 0; d < 4; d++) {
            pieceWith(x, 0, d, 50);
        }
        x.seed(0, 8, 8);
        for (int d = 0; d < 4; d++) {
            for (int e = 0; e < 4; e++) {
                is("3: sides do not turn: " + d + " from " + e, x.hold(1 + d, 8 - Benches.DX[e], 8 - Benches.DY[e]),
                    d == e ? 2 : 0);
            }
        }
    }

    private static int pieceWith(Bench x, int kind, int d, int glue) {
        int[] sides = {0, 0, 0, 0};
        sides[d] = glue;
        return x.piece(kind, sides[0], sides[1], sides[2], sides[3], MORE[kind]);
    }

    private void pieceMore() {
        int[][] can = {{0}, {0}, {0, 1, 49, 50, 64, 65, 114, 3200, 3201, 3249, 3250}, {0}, {0, 1, 2, 4, 8, 14, 15},
            {16, 17, 31, 32, 240, 254, 255}};
        int[][] cannot = {{-1, 1, 16, 64, LOW, HIGH}, {-1, 1, 16, 64, LOW, HIGH},
            {-1, 51, 52, 63, 115, 127, 3199, 3251, 3263, 3264, 3265, 3314, 4096, -64, -13, -3250, LOW, HIGH, HIGH - 63},
            {-1, 1, 16, 64, LOW, HIGH}, {-1, 16, 17, 32, -16, LOW, LOW + 15, HIGH},
            {-1, 0, 1, 14, 15, 256, 257, 271, 272, -16, -240, LOW, LOW + 16, HIGH}};
        for (int kind = 0; kind <= 5; kind++) {
            Bench x = new Bench();
            for (int i = 0; i < can[kind].length; i++) {
                is("3: KIND " + kind + " with MORE " + can[kind][i], x.piece(kind, 0, 0, 0, 0, can[kind][i]), i);
            }
            for (int more : cannot[kind]) {
                int k = kind;
                clear.none("3: KIND " + kind + " with MORE " + more, y -> y.piece(k, 1, 1, 1, 1, more));
            }
        }
    }

    /** A BLOCK has six SIDES: each GLUE is seen from just one PLACE beside it. */
    private void pieceSidesOfBlock() {
        int[][] beside = {{5, 4, 2}, {7, 5, 3}, {5, 6, 0}, {4, 5, 1}, {6, 4, 2}, {6, 6, 0}};
        for (int side = 0; side < 6; side++) {
            Bench x = new Bench();
            x.glue(50, 1);
            int[] glues = {0, 0, 0, 0, 0, 0};
            glues[side] = 50;
            x.piece(2, glues[0], glues[1], glues[2], glues[3], glues[4] + 64 * glues[5]);
            x.piece(0, 50, 50, 50, 50, 0);
            x.force(0, 5, 5);
            for (int i = 0; i < 6; i++) {
                is("3: a BLOCK's side " + side + " seen from " + i, x.hold(1, beside[i][0], beside[i][1]),
                    i == side ? 1 : 0);
            }
            x.clear();
            x.force(1, beside[side][0], beside[side][1]);
            is("10: and the other way round", x.hold(0, 5, 5), 1);
        }
        Bench x = new Bench();
        x.glue(50, 3);
        x.piece(2, 50, 50, 50, 50, 3250);
        x.piece(1, 50, 50, 50, 50, 0);
        for (int[] place : beside) {
            x.seed(1, place[0], place[1]);
        }
        is("10: six SIDES, each with 3", x.hold(0, 5, 5), 18);
        is("11: it comes", x.come(0, 5, 5), true);
        is("19: HOLD 18 of its own PLACE", x.of(5, 5, 2), 18);
        is("19: HOLD 18 of the other", x.of(6, 5, 2), 18);
    }

    private void pieceMarks() {
        Bench x = new Bench();
        for (int mark = 1; mark <= 15; mark++) {
            is("3: MARK " + mark, x.piece(5, 0, 0, 0, 0, 16 * mark), 2 * mark - 2);
            is("3: MARK " + mark + " and all bars", x.piece(5, 0, 0, 0, 0, 16 * mark + 15), 2 * mark - 1);
        }
        for (int mark = 1; mark <= 15; mark++) {
            x.force(2 * mark - 2, mark, 1);
            x.force(2 * mark - 1, mark, 2);
            is("19: MARK " + mark, x.of(mark, 1, 1), mark);
            is("19: MARK " + mark + " with bars", x.of(mark, 2, 1), mark);
        }
    }

    /** Each sum of barred sides, of a STOP and of a MARKED one. */
    private void pieceBars() {
        for (int sum = 0; sum <= 15; sum++) {
            for (int kind = 4; kind <= 5; kind++) {
                Bench x = Benches.plain();
                x.piece(kind, 1, 1, 1, 1, kind == 4 ? sum : 16 + sum);
                for (int d = 0; d < 4; d++) {
                    boolean barred = (sum >> d) % 2 == 1;
                    int px = 8 + Benches.DX[d];
                    int py = 8 + Benches.DY[d];
                    x.clear();
                    x.force(2, 8, 8);
                    is("9: KIND " + kind + " bars " + sum + ": one comes at " + d, x.may(1, px, py), !barred);
                    x.clear();
                    x.force(1, px, py);
                    is("9: KIND " + kind + " bars " + sum + ": it comes to one at " + d, x.may(2, 8, 8), !barred);
                }
            }
        }
    }

    private void pieceForty() {
        Bench x = Benches.plain();
        for (int number = 2; number <= 39; number++) {
            is("3: numbered from 0 on", x.piece(0, 1, 1, 1, 1, 0), number);
        }
        is("3: there are 40", x.about(0), 40);
        x.seed(0, 0, 0);
        is("9: PIECE 39 is one", x.may(39, 0, 1), true);
        is("9: 40 is none", x.may(40, 0, 1), false);
        Unchanged forty = new Unchanged(DUE, EdgesOfPiecesTest::withForty);
        for (int kind = 0; kind <= 5; kind++) {
            int k = kind;
            forty.none("3: the 41st, of KIND " + kind, y -> y.piece(k, 1, 1, 1, 1, MORE[k]));
        }
        Bench y = withForty();
        y.back(0);
        is("3: one again where there are none", y.piece(0, 0, 0, 0, 0, 0), 0);
        Bench z = withForty();
        z.clear();
        is("3: a clear SHEET makes no room", z.piece(0, 0, 0, 0, 0, 0), NONE);
    }

    private static Bench withForty() {
        Bench x = Benches.plain();
        for (int i = 2; i < 40; i++) {
            x.piece(0, 1, 1, 1, 1, 0);
        }
        x.seed(0, 8, 8);
        return x;
    }

    private void pieceOnSheetNotClear() {
        Bench x = Benches.grown();
        int before = x.choices();
        is("3: a PIECE while others lie there", x.piece(0, 1, 0, 0, 0, 0), 7);
        is("14: a CHOICE at each PLACE below one with GLUE 1", x.choices() > before, true);
        is("29: nothing else changed", x.about(1), 5);
        is("29: nor the STEPS", x.about(3), 7);
    }

    private void feedFourHundred() {
        Bench x = new Bench();
        for (int i = 1; i <= 20; i++) {
            is("4: feed " + i, x.feed(0, 0, 0, 0, 0), 20 * i);
            is("29: bytes on the TAPE", x.about(5), 20 * i);
        }
        Unchanged full = new Unchanged(DUE, EdgesOfPiecesTest::withTape400);
        full.none("4: the 21st", y -> y.feed(0x01010101, 0x01000000, -1, LOW, HIGH));
        full.none("4: the 21st of nothing", y -> y.feed(0, 0, 0, 0, 0));
        Bench z = withTape400();
        is("5: set(0)", z.set(0), 0);
        is("4: fed again", z.feed(0, 0, 0, 0, 0), 20);
    }

    private static Bench withTape400() {
        Bench x = new Bench();
        for (int i = 0; i < 20; i++) {
            x.feed(0x05000000, 16 + i, 0x01020000, 0, 0x03000000);
        }
        return x;
    }

    private void feedHighestFirst() {
        Bench x = new Bench();
        for (int glue = 1; glue <= 4; glue++) {
            x.glue(glue, 1);
        }
        x.feed(0x00010203, 0x04FF0000, 0x05000000, 0x00800010 + 16 * 13, 0xFF000000);
        is("4: 20 bytes, of which 16 are PIECES", x.set(20), 2);
        for (int glue = 1; glue <= 4; glue++) {
            x.piece(1, glue, glue, glue, glue, 0);
        }
        for (int d = 0; d < 4; d++) {
            for (int glue = 1; glue <= 4; glue++) {
                x.clear();
                x.seed(1 + glue, 8 + Benches.DX[d], 8 + Benches.DY[d]);
                is("4: the highest first: side " + d + " has GLUE " + glue, x.hold(0, 8, 8), glue == d + 1 ? 1 : 0);
            }
        }
        x.clear();
        is("4: and the lowest last", x.force(1, 3, 3) ? x.of(3, 3, 1) : NONE, 14);
        Bench y = new Bench();
        y.feed(0, 0, 0, 0, 0);
        y.feed(0x05000000, 0x00000020, 0, 0, 0);
        is("4: behind those on the TAPE", y.set(40), 5);
        is("4: the third goes over both", y.force(2, 0, 0) ? y.of(0, 0, 0) : NONE, 0);
        y.feed(0, 0, 0, 0, 0x05000000);
        y.feed(0x00000030, 0, 0, 0, 0);
        is("4: one of both", y.set(24), 3);
        is("4: its MARK", y.force(7, 5, 5) ? y.of(5, 5, 1) : NONE, 3);
    }

    private void setLengths() {
        int[] lengths = {0, 1, 7, 8, 9, 15, 16, 17, 20, 23, 24, 39, 40};
        for (int n : lengths) {
            Bench x = new Bench();
            x.feed(0, 0, 0, 0, 0);
            x.feed(0, 0, 0, 0, 0);
            is("5: set(" + n + ") of 40", x.set(n), n / 8);
            is("29: PIECES of " + n, x.about(0), n / 8);
            is("29: empty then", x.about(5), 0);
        }
        Bench x = new Bench();
        is("5: set(0) of an empty TAPE", x.set(0), 0);
        is("5: set(1) of an empty TAPE", x.set(1), NONE);
    }

    private void setRefused() {
        new Unchanged(DUE, Bench::new).none("5: a new TAPE has not 1", x -> x.set(1));
        for (int n : new int[] {41, 42, 400, 401, -1, -8, -40, LOW, HIGH, HIGH - 7}) {
            clear.none("5: the TAPE has not " + n, x -> x.set(n));
        }
        grown.none("5: the TAPE has not 48", x -> x.set(48));
        Bench x = withTape400();
        is("5: the TAPE has not 401", x.set(401), NONE);
        is("5: it has 400", x.set(400), 40);
        is("5: and not twice", x.set(400), NONE);
    }

    private void setFirstThatCannotBe() {
        int[][] cannot = {{0x06000000, 0}, {0xFF000000, 0}, {0x00330000, 0}, {0x00003300, 0}, {0x00000033, 0},
            {0, 0x33000000}, {0, 1}, {0, 0x100}, {0x01000000, 1}, {0x03000000, 1}, {0x04000000, 16}, {0x05000000, 15},
            {0x05000000, 256}, {0x02000000, 51}, {0x02000000, 64 * 51}, {0x02000000, 0xFFFF}, {0x00FF0000, 0}};
        for (int[] words : cannot) {
            Bench x = new Bench();
            x.feed(0, 0, words[0], words[1], 0);
            x.feed(0, 0, 0, 0, 0);
            is("5: until the first that can't be: " + words[0] + " " + words[1], x.set(40), 1);
            is("29: those before it came", x.about(0), 1);
            is("29: and the TAPE is empty", x.about(5), 0);
            x.feed(words[0], words[1], 0, 0, 0);
            is("5: none, if the first can't be", x.set(20), 0);
            is("29: the TAPE is empty again", x.about(5), 0);
        }
        Bench x = new Bench();
        x.feed(0, 0x00FF0000, 0, 0x00010000, 0);
        is("5: a byte that says nothing", x.set(16), 2);
    }

    private void setMoreOfTwoBytes() {
        int[][] can = {{0x02000000, 0x0CB2}, {0x02000000, 0x0C80}, {0x02000000, 50}, {0x04000000, 15}, {0x05000000, 16},
            {0x05000000, 255}, {0x00323232, 0x32000000}, {0x01000000, 0x00FF0000}};
        for (int[] words : can) {
            Bench x = new Bench();
            x.feed(words[0], words[1], 0, 0, 0);
            is("5: can be: " + words[0] + " " + words[1], x.set(8), 1);
        }
        Bench x = new Bench();
        x.glue(50, 1);
        x.glue(49, 2);
        x.feed(0x02000000, 64 * 49 + 50, 0x00323232, 0x32000000, 0);
        is("5: a BLOCK and a PIECE", x.set(16), 2);
        x.piece(0, 49, 49, 49, 49, 0);
        x.force(0, 5, 5);
        is("5: MORE's low part: the other one's above", x.hold(1, 6, 4), 1);
        is("5: MORE's high part: its below", x.hold(2, 6, 6), 2);
        is("5: nothing at its own", x.hold(1, 5, 4) + x.hold(2, 5, 6), 0);
    }

    private void setForty() {
        for (int before = 36; before <= 40; before++) {
            Bench x = new Bench();
            for (int i = 0; i < before; i++) {
                x.piece(0, 0, 0, 0, 0, 0);
            }
            x.feed(0, 0, 0, 0, 0);
            x.feed(0, 0, 0, 0, 0);
            is("5: 5 to " + before, x.set(40), Math.min(5, 40 - before));
            is("29: 40 at most", x.about(0), Math.min(40, before + 5));
            is("29: empty then", x.about(5), 0);
        }
        Bench x = new Bench();
        for (int i = 0; i < 17; i++) {
            x.feed(0, 0, 0, 0, 0);
        }
        is("5: 340 bytes are 42, and 40 can be", x.set(340), 40);
    }

    private void setEmptiesTape() {
        Bench x = new Bench();
        x.feed(0, 0, 0x05000000, 0x20, 0);
        is("5: the first eight alone", x.set(8), 1);
        is("29: all is empty", x.about(5), 0);
        is("5: nothing is left of it", x.set(8), NONE);
        is("4: what comes is the first again", x.feed(0x05000000, 0x70, 0, 0, 0), 20);
        is("5: and is read off", x.set(8), 1);
        is("19: MARK 7", x.force(1, 3, 3) ? x.of(3, 3, 1) : NONE, 7);
        Bench y = Benches.grown();
        int before = y.choices();
        is("5: while others lie there", y.set(8), 1);
        is("29: nothing else changed", y.about(1), 5);
        is("9: it may come", y.may(7, 4, 4), true);
        is("14: the CHOICES are more", y.choices() > before, true);
    }

    private void warmthLimits() {
        for (int warmth = 1; warmth <= 3; warmth++) {
            Bench x = new Bench();
            is("6: warmth(" + warmth + ")", x.warmth(warmth), true);
            is("29: THE WARMTH " + warmth, x.about(2), warmth);
            for (int strength = 0; strength <= 3; strength++) {
                x.clear();
                x.glue(1, strength);
                int piece = x.piece(0, 1, 0, 1, 0, 0);
                x.force(piece, 5, 5);
                is("9: HOLD " + strength + " at WARMTH " + warmth, x.may(piece, 5, 6), strength >= warmth);
            }
        }
        for (int warmth : new int[] {0, 4, -1, 5, LOW, HIGH}) {
            clear.refused("6: warmth(" + warmth + ")", x -> x.warmth(warmth));
        }
    }

    private void warmthOnSheetNotClear() {
        for (int warmth = 1; warmth <= 3; warmth++) {
            int warm = warmth;
            seeded.refused("6: SEEDS are there: warmth(" + warmth + ")", x -> x.warmth(warm));
            grown.refused("6: PIECES are there: warmth(" + warmth + ")", x -> x.warmth(warm));
        }
        Bench x = Benches.seeded();
        x.undo(1);
        is("6: one is left", x.warmth(3), false);
        x.undo(1);
        is("6: none is left", x.warmth(3), true);
        x.seed(0, 0, 0);
        is("6: one in the corner", x.warmth(1), false);
        x.clear();
        is("6: clear", x.warmth(1), true);
    }

    private void clearCounts() {
        is("7: clear() of a new object", new Bench().clear(), 0);
        Bench x = Benches.grown();
        is("7: a BLOCK is one", x.clear(), 5);
        is("7: clear already", x.clear(), 0);
        is("7: all 256", Benches.full().clear(), 256);
        Bench y = new Bench();
        y.piece(2, 0, 0, 0, 0, 0);
        for (int i = 0; i < 128; i++) {
            is("13: BLOCK " + i, y.force(0, 2 * (i % 8), i / 8), true);
        }
        is("7: 128 BLOCKS", y.clear(), 128);
        for (int place = 0; place < 256; place++) {
            is("18: nothing is left", y.at(place % 16, place / 16), NONE);
        }
        Bench z = Benches.grown();
        z.keep(0);
        z.back(0);
        is("7: what was brought back", z.clear(), 5);
    }

    private void clearForgetsSteps() {
        Bench x = Benches.grown();
        x.clear();
        is("29: no STEPS", x.about(3), 0);
        is("29: none to be UNDONE", x.about(4), 0);
        is("26: undo(0)", x.undo(0), 0);
        is("26: undo(1)", x.undo(1), NONE);
        is("23: asked of a clear SHEET again", x.orderly(), 1);
        x.seed(0, 5, 5);
        is("19: its STEP is the first", x.of(5, 5, 3), 0);
        is("26: undo(2)", x.undo(2), NONE);
        is("26: undo(1)", x.undo(1), 1);
        Bench y = Benches.full();
        y.clear();
        is("29: no STEPS of 256", y.about(3), 0);
        y.seed(0, 5, 5);
        is("23: 256 STEPS no longer stand in the way", y.orderly(), -4);
    }

    private void clearLeavesTheRest() {
        clear.by("7: clear() of a clear SHEET", Bench::clear, 0);
        Picture before = Picture.of(() -> {
            Bench x = Benches.clear();
            x.draw(4);
            return x;
        });
        Picture behind = Picture.of(() -> {
            Bench x = Benches.grown();
            x.draw(4);
            x.clear();
            return x;
        });
        before.isLike(DUE, "7: clear() clears THE SHEET alone", behind);
    }
}
