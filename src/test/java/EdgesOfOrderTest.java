/** Promises 23 to 25, ORDERLY and RULES at their limits. */
public final class EdgesOfOrderTest {
    private static final int NONE = GrowingTiles.NONE;
    private static final int LOW = Integer.MIN_VALUE;
    private static final int HIGH = Integer.MAX_VALUE;
    private static final Due DUE = new Due();

    private final Unchanged clear = new Unchanged(DUE, Benches::clear);
    private final Unchanged grown = new Unchanged(DUE, Benches::grown);
    private final Unchanged ruled = new Unchanged(DUE, Benches::ruled);

    public static void main(String[] args) {
        EdgesOfOrderTest test = new EdgesOfOrderTest();
        test.orderlyOfSeedsAlone();
        test.orderlyByKind();
        test.orderlyByStep();
        test.orderlyUndone();
        test.orderlyTwoHundred();
        test.orderlyBehindBack();
        test.orderlyHoldJustWarmth();
        test.orderlyPlacesTold();
        test.orderlyFirstByComing();
        test.orderlyRivalsByHold();
        test.orderlyRivalsByKind();
        test.orderlyOutputsAway();
        test.orderlyOrderOfFaults();
        test.ruleRefused();
        test.ruleSmallestAndLargest();
        test.ruleBitsBeyond();
        test.ruleSeedsAndSteps();
        test.rulePieces();
        test.ruleOfAllRules();
        test.ruleClears();
        test.ruleGlues();
        test.ruleForgetsKinds();
        test.rowRefused();
        test.rowMarks();
        DUE.end();
    }

    private static void is(String call, long got, long want) {
        DUE.is(call, got, want);
    }

    private static void is(String call, boolean got, boolean want) {
        DUE.is(call, got, want);
    }

    private void orderlyOfSeedsAlone() {
        is("23: nothing is there, and it is ENDED", new Bench().orderly(), 1);
        Bench x = Benches.plain();
        x.seed(0, 8, 8);
        is("23: a SEED, not ENDED", x.orderly(), -4);
        x.clear();
        x.warmth(2);
        x.seed(0, 8, 8);
        is("23: a SEED, ENDED", x.orderly(), 1);
        x.seed(0, 10, 8);
        is("23: between two one may come", x.orderly(), -4);
        x.come(1, 9, 8);
        is("23: it came, and it is ENDED", x.orderly(), 1);
    }

    /** A SEED with GLUE 1 of STRENGTH 2 to its right, and what comes there. */
    private static Bench pair(int kind, int more) {
        Bench x = new Bench();
        x.glue(1, 2);
        x.piece(1, 0, 1, 0, 0, 0);
        x.piece(kind, 0, 0, 0, 1, more);
        x.seed(0, 5, 5);
        x.come(1, 6, 5);
        return x;
    }

    private void orderlyByKind() {
        is("23: a PIECE", pair(0, 0).orderly(), 1);
        is("23: a BLOCK", pair(2, 0).orderly(), NONE);
        is("23: a WEAK one", pair(3, 0).orderly(), NONE);
        is("23: a STOP without barred sides", pair(4, 0).orderly(), NONE);
        is("23: a STOP", pair(4, 1).orderly(), NONE);
        for (int bars = 0; bars <= 15; bars++) {
            Bench x = pair(5, 16 + bars);
            boolean came = bars < 8;
            is("29: it came unless it bars its left", x.about(1), came ? 2 : 1);
            is("23: MARKED with barred sides " + bars, x.orderly(), !came || bars == 0 ? 1 : NONE);
            is("23: MARKED 15 with barred sides " + bars, pair(5, 240 + bars).orderly(), !came || bars == 0 ? 1 : NONE);
        }
        for (int kind = 2; kind <= 4; kind++) {
            Bench x = pair(kind, 0);
            x.undo(1);
            is("23: KIND " + kind + " is away again", x.orderly(), -4);
        }
        Bench x = pair(0, 0);
        x.piece(2, 0, 0, 0, 0, 0);
        x.piece(3, 0, 0, 0, 0, 0);
        x.piece(4, 0, 0, 0, 0, 15);
        x.piece(5, 0, 0, 0, 0, 31);
        is("23: those that are not there do not matter", x.orderly(), 1);
    }

    private void orderlyByStep() {
        Bench x = pair(0, 0);
        x.undo(1);
        x.force(1, 6, 5);
        is("23: FORCED where it might have come", x.orderly(), NONE);
        x.undo(1);
        x.come(1, 6, 5);
        x.force(1, 0, 0);
        is("23: FORCED elsewhere", x.orderly(), NONE);
        Bench y = new Bench();
        y.piece(0, 0, 0, 0, 0, 0);
        y.force(0, 5, 5);
        is("23: FORCED alone", y.orderly(), NONE);
        Bench z = pair(3, 0);
        is("12: it goes", z.go(6, 5), true);
        is("23: one went", z.orderly(), NONE);
        z.clear();
        z.seed(0, 5, 5);
        is("23: clear since", z.orderly(), -4);
    }

    private void orderlyUndone() {
        Bench x = pair(0, 0);
        x.force(1, 0, 0);
        x.undo(1);
        is("23: FORCED and UNDONE", x.orderly(), 1);
        Bench y = pair(3, 0);
        y.go(6, 5);
        y.undo(1);
        is("23: it went and is back, a WEAK one", y.orderly(), NONE);
        y.undo(1);
        is("23: it did not come", y.orderly(), -4);
        y.undo(1);
        is("23: all UNDONE", y.orderly(), 1);
    }

    /** 13 + 13 SEEDS and 169 of a RULE, with so many SEEDS more that do not matter: 195 STEPS and those. */
    private static Bench rule195(int more) {
        Bench x = new Bench();
        x.rule(15, 15, 13, 13, 0, 0);
        for (int i = 0; i < more; i++) {
            x.seed(4, 15, 1 + 2 * i);
        }
        x.grow(250);
        return x;
    }

    private void orderlyTwoHundred() {
        for (int more = 0; more <= 6; more++) {
            Bench x = rule195(more);
            is("29: STEPS", x.about(3), 195 + more);
            is("23: " + (195 + more) + " STEPS", x.orderly(), more <= 5 ? 1 : NONE);
        }
        Bench x = rule195(5);
        is("13: the 201st", x.force(0, 15, 15), true);
        x.undo(1);
        is("29: 200 again", x.about(3), 200);
        is("23: also those that were UNDONE later", x.orderly(), NONE);
        x.undo(199);
        is("29: one is left", x.about(3), 1);
        is("23: nor then", x.orderly(), NONE);
        x.clear();
        x.seed(4, 3, 3);
        is("23: clear since", x.orderly(), 1);
        Bench y = rule195(5);
        y.undo(1);
        is("23: 199 of 200", y.orderly(), -4);
        y.grow(1);
        is("23: 200 again, never more", y.orderly(), 1);
        Bench z = rule195(6);
        z.rule(15, 15, 13, 13, 0, 0);
        z.grow(250);
        is("23: a RULE clears all", z.orderly(), 1);
    }

    private void orderlyBehindBack() {
        Bench x = pair(0, 0);
        x.keep(0);
        x.back(0);
        is("23: behind back()", x.orderly(), NONE);
        x.keep(2);
        x.clear();
        is("23: clear", x.orderly(), 1);
        x.seed(0, 5, 5);
        x.come(1, 6, 5);
        is("23: grown anew", x.orderly(), 1);
        x.back(2);
        is("23: behind back() again", x.orderly(), NONE);
        Bench y = pair(0, 0);
        y.clear();
        y.keep(0);
        y.seed(0, 5, 5);
        y.force(1, 9, 9);
        y.back(0);
        is("23: behind back() to a clear SHEET", y.orderly(), 1);
        y.seed(0, 5, 5);
        is("23: a SEED behind it", y.orderly(), -4);
        y.come(1, 6, 5);
        is("23: one that came behind it", y.orderly(), 1);
        Bench z = pair(0, 0);
        z.undo(1);
        z.keep(0);
        z.back(0);
        is("23: a SEED alone brought back", z.orderly(), NONE);
        z.come(1, 6, 5);
        is("23: and what came to it", z.orderly(), NONE);
        z.undo(1);
        is("23: and is UNDONE", z.orderly(), NONE);
    }

    /** One between two SEEDS, with STRENGTHS of both sides: it may come with THE WARMTH or more, and is held by just it or not. */
    private void orderlyHoldJustWarmth() {
        for (int warmth = 1; warmth <= 3; warmth++) {
            for (int first = 0; first <= 3; first++) {
                for (int second = 0; second <= 3; second++) {
                    Bench x = new Bench();
                    x.glue(1, first);
                    x.glue(2, second);
                    x.warmth(warmth);
                    x.piece(1, 0, 1, 0, 0, 0);
                    x.piece(1, 0, 0, 0, 2, 0);
                    x.piece(0, 0, 2, 0, 1, 0);
                    x.seed(0, 4, 4);
                    x.seed(1, 6, 4);
                    int hold = first + second;
                    is("11: HOLD " + hold + " at WARMTH " + warmth, x.come(2, 5, 4), hold >= warmth);
                    is("23: (a), HOLD " + hold + " at WARMTH " + warmth, x.orderly(),
                        hold > warmth ? -2 - 4 * (5 + 16 * 4) : 1);
                }
            }
        }
    }

    /** What is told of a PLACE, in the corners and inside: all (a), then all (b). */
    private void orderlyPlacesTold() {
        int[][] places = {{0, 0, 1}, {15, 0, 3}, {0, 15, 1}, {15, 15, 3}, {1, 0, 3}, {0, 1, 1}, {7, 9, 3}};
        for (int[] p : places) {
            for (int strength = 2; strength <= 3; strength++) {
                Bench x = new Bench();
                x.glue(1, strength);
                int back = p[2] ^ 2;
                x.piece(1, 0, back == 1 ? 1 : 0, 0, back == 3 ? 1 : 0, 0);
                x.piece(0, 0, p[2] == 1 ? 1 : 0, 0, p[2] == 3 ? 1 : 0, 0);
                x.piece(0, 0, p[2] == 1 ? 1 : 0, 0, p[2] == 3 ? 1 : 0, 0);
                x.seed(0, p[0] + Benches.DX[p[2]], p[1]);
                x.come(1, p[0], p[1]);
                int place = p[0] + 16 * p[1];
                is("23: " + (strength == 2 ? "(b)" : "(a)") + " at " + p[0] + ", " + p[1], x.orderly(),
                    strength == 2 ? -3 - 4 * place : -2 - 4 * place);
            }
        }
    }

    /** Two PLACES at which the same fails: told is the one that came first, wherever it lies. */
    private void orderlyFirstByComing() {
        for (int strength = 2; strength <= 3; strength++) {
            for (int first = 0; first < 2; first++) {
                Bench x = new Bench();
                x.glue(1, strength);
                x.piece(1, 0, 1, 0, 0, 0);
                x.piece(0, 0, 0, 0, 1, 0);
                x.piece(0, 0, 0, 0, 1, 0);
                x.seed(0, 2, 2);
                x.seed(0, 9, 9);
                int[] lines = {2, 9};
                x.come(1, lines[first] + 1, lines[first]);
                x.come(1, lines[1 - first] + 1, lines[1 - first]);
                int place = lines[first] + 1 + 16 * lines[first];
                is("23: the first by coming, STRENGTH " + strength, x.orderly(),
                    strength == 2 ? -3 - 4 * place : -2 - 4 * place);
            }
        }
        for (int first = 0; first < 2; first++) {
            Bench x = new Bench();
            x.glue(1, 2);
            x.glue(2, 3);
            x.piece(1, 0, 1, 0, 0, 0);
            x.piece(1, 0, 2, 0, 0, 0);
            x.piece(0, 0, 0, 0, 1, 0);
            x.piece(0, 0, 0, 0, 1, 0);
            x.piece(0, 0, 0, 0, 2, 0);
            x.seed(0, 2, 2);
            x.seed(1, 9, 9);
            x.come(first == 0 ? 2 : 4, first == 0 ? 3 : 10, first == 0 ? 2 : 9);
            x.come(first == 0 ? 4 : 2, first == 0 ? 10 : 3, first == 0 ? 9 : 2);
            is("23: (a) at any before (b) at any", x.orderly(), -2 - 4 * (10 + 16 * 9));
        }
    }

    /** A rival with a HOLD of one less than THE WARMTH, just it, or one more. */
    private void orderlyRivalsByHold() {
        for (int warmth = 1; warmth <= 3; warmth++) {
            for (int strength = 0; strength <= 3; strength++) {
                Bench x = new Bench();
                x.glue(1, warmth);
                x.glue(2, strength);
                x.warmth(warmth);
                x.piece(1, 0, 1, 0, 0, 0);
                x.piece(1, 2, 0, 0, 0, 0);
                x.piece(0, 0, 0, 0, 1, 0);
                x.seed(0, 5, 5);
                x.seed(1, 6, 6);
                x.come(2, 6, 5);
                is("23: without a rival", x.orderly(), 1);
                x.piece(0, 0, 0, 2, 0, 0);
                is("23: a rival with HOLD " + strength + " at WARMTH " + warmth, x.orderly(),
                    strength >= warmth ? -3 - 4 * (6 + 16 * 5) : 1);
            }
        }
    }

    private void orderlyRivalsByKind() {
        int[][] rivals = {{0, 0, 1}, {1, 0, 0}, {2, 0, 0}, {3, 0, 1}, {4, 0, 0}, {4, 15, 0}, {5, 16, 1}, {5, 31, 1},
            {5, 240, 1}};
        for (int[] rival : rivals) {
            Bench x = pair(0, 0);
            is("23: none", x.orderly(), 1);
            x.piece(rival[0], 0, 0, 0, 1, rival[1]);
            is("23: KIND " + rival[0] + " with MORE " + rival[1], x.orderly(), rival[2] == 1 ? -3 - 4 * (6 + 16 * 5) : 1);
        }
        Bench x = pair(0, 0);
        x.piece(2, 0, 1, 0, 0, 0);
        x.piece(2, 0, 0, 0, 1, 0);
        is("23: nor a BLOCK by either end", x.orderly(), 1);
        Bench y = new Bench();
        y.glue(1, 2);
        y.piece(0, 0, 0, 0, 1, 0);
        y.piece(1, 0, 1, 0, 0, 0);
        y.piece(0, 0, 0, 0, 1, 0);
        y.seed(1, 5, 5);
        y.come(2, 6, 5);
        is("23: one with a lower number", y.orderly(), -3 - 4 * (6 + 16 * 5));
    }

    /** With what lies at its OUTPUTS away; what came later and is held by others stays. */
    private void orderlyOutputsAway() {
        for (int d = 0; d < 4; d++) {
            Bench x = new Bench();
            int[] way = {0, 0, 0, 0};
            x.glue(1, 2);
            x.glue(2, 2);
            way[d] = 1;
            x.piece(1, way[0], way[1], way[2], way[3], 0);
            way[d] = 2;
            way[d ^ 2] = 1;
            x.piece(0, way[0], way[1], way[2], way[3], 0);
            way[d] = 0;
            way[d ^ 2] = 2;
            x.piece(0, way[0], way[1], way[2], way[3], 0);
            x.seed(0, 8, 8);
            x.come(1, 8 + Benches.DX[d], 8 + Benches.DY[d]);
            x.come(2, 8 + 2 * Benches.DX[d], 8 + 2 * Benches.DY[d]);
            is("23: a row of three to " + d, x.orderly(), 1);
            way[d] = 2;
            way[d ^ 2] = 0;
            x.piece(0, way[0], way[1], way[2], way[3], 0);
            is("23: held by its OUTPUT alone", x.orderly(), 1);
            way[d] = 0;
            way[d ^ 2] = 1;
            x.piece(0, way[0], way[1], way[2], way[3], 0);
            is("23: held by its INPUT", x.orderly(),
                -3 - 4 * (8 + Benches.DX[d] + 16 * (8 + Benches.DY[d])));
        }
        laterWithoutOutput();
    }

    /** One beside it that came later by another SEED: it stays, and holds a rival. */
    private void laterWithoutOutput() {
        for (int order = 0; order < 2; order++) {
            Bench x = new Bench();
            x.glue(1, 2);
            x.glue(2, 2);
            x.piece(1, 0, 1, 0, 0, 0);
            x.piece(1, 0, 0, 0, 1, 0);
            x.piece(0, 0, 0, 0, 1, 0);
            x.piece(0, 0, 1, 0, 2, 0);
            x.piece(0, 0, 2, 0, 0, 0);
            x.seed(0, 4, 4);
            x.seed(1, 7, 4);
            x.come(order == 0 ? 2 : 3, order == 0 ? 5 : 6, 4);
            is("23: one of both, the other not yet", x.orderly(), -4);
            x.come(order == 0 ? 3 : 2, order == 0 ? 6 : 5, 4);
            is("23: it holds a rival, whichever came first", x.orderly(), -3 - 4 * (5 + 16 * 4));
        }
    }

    private void orderlyOrderOfFaults() {
        Bench x = new Bench();
        x.glue(1, 3);
        x.glue(2, 2);
        x.piece(1, 0, 1, 0, 2, 0);
        x.piece(0, 0, 0, 0, 1, 0);
        x.piece(0, 0, 2, 0, 0, 0);
        x.seed(0, 5, 5);
        is("23: (c) alone", x.orderly(), -4);
        x.come(2, 4, 5);
        is("23: (c) still", x.orderly(), -4);
        x.piece(0, 0, 2, 0, 0, 0);
        is("23: (b) before (c)", x.orderly(), -3 - 4 * (4 + 16 * 5));
        x.come(1, 6, 5);
        is("23: (a) before (b)", x.orderly(), -2 - 4 * (6 + 16 * 5));
        x.force(1, 0, 0);
        is("23: it can't be asked", x.orderly(), NONE);
    }

    private void ruleRefused() {
        int[] beyond = {-1, 16, 17, LOW, HIGH};
        int[] beyondLines = {0, 16, -1, 17, LOW, HIGH};
        for (int bad : beyond) {
            grown.none("24: f " + bad, x -> x.rule(bad, 8, 4, 3, 5, 7));
            grown.none("24: g " + bad, x -> x.rule(6, bad, 4, 3, 5, 7));
        }
        for (int bad : beyondLines) {
            grown.none("24: columns " + bad, x -> x.rule(6, 8, bad, 3, 5, 7));
            grown.none("24: rows " + bad, x -> x.rule(6, 8, 4, bad, 5, 7));
        }
        clear.none("24: of a clear SHEET", x -> x.rule(6, 8, 0, 1, 0, 0));
        ruled.none("24: of a RULE", x -> x.rule(16, 8, 4, 3, 5, 7));
        ruled.none("24: of a RULE, rows", x -> x.rule(6, 8, 4, 16, 5, 7));
    }

    private void ruleSmallestAndLargest() {
        int[][] sizes = {{1, 1}, {1, 15}, {15, 1}, {15, 15}, {14, 15}, {2, 2}};
        for (int[] size : sizes) {
            for (int rule : new int[] {0, 15}) {
                Bench x = new Bench();
                int c = size[0];
                int r = size[1];
                is("24: rule " + rule + " of " + c + " by " + r, x.rule(rule, rule, c, r, -1, -1), c + r);
                is("29: so many SEEDS", x.about(1), c + r);
                is("29: so many STEPS", x.about(3) == c + r && x.about(4) == c + r, true);
                is("17: it grows", x.grow(250), c * r);
                is("25: the first line", x.row(14, c), rule == 0 ? 0 : (1 << c) - 1);
                is("25: the last line", x.row(15 - r, c), rule == 0 ? 0 : (1 << c) - 1);
                is("25: no line above", x.row(14 - r, c), NONE);
                is("23: ORDERLY, if there are not too many STEPS", x.orderly(), c + r + c * r <= 200 ? 1 : NONE);
            }
        }
        Bench x = new Bench();
        x.rule(6, 8, 15, 15, 0, 0);
        is("18: nothing where row and column would meet", x.at(15, 15), NONE);
        is("18: the column's first", x.at(15, 14), 6);
        is("18: the column's last", x.at(15, 0), 6);
        is("18: the row's first and last", x.at(0, 15) == 4 && x.at(14, 15) == 4, true);
    }

    private void ruleBitsBeyond() {
        Picture plain = Picture.of(() -> ruleOf(5, 2));
        int[][] same = {{5 + 16, 2 + 8}, {5 - 16, 2 - 8}, {5 + LOW, 2 + LOW}, {0xFFFFFFF5, 0xFFFFFFFA}, {HIGH - 10, HIGH - 5}};
        for (int[] bits : same) {
            plain.isLike(DUE, "24: bits beyond are passed over: " + bits[0] + ", " + bits[1],
                Picture.of(() -> ruleOf(bits[0], bits[1])));
        }
        Bench x = new Bench();
        x.rule(6, 8, 15, 15, 1 << 14, 1 << 14);
        is("24: the highest bit of a row that counts", x.at(0, 15), 5);
        is("24: the next", x.at(1, 15), 4);
        is("24: the highest bit of a column that counts", x.at(15, 0), 7);
        is("24: the next", x.at(15, 1), 6);
        x.rule(6, 8, 15, 15, 1 << 15, 1 << 15);
        for (int i = 0; i < 15; i++) {
            is("24: bit 15 of a row does not count", x.at(i, 15), 4);
            is("24: nor of a column", x.at(15, 14 - i), 6);
        }
    }

    private static Bench ruleOf(int row, int column) {
        Bench x = new Bench();
        x.rule(6, 8, 4, 3, row, column);
        return x;
    }

    /** First the row by x, then the column by j; bit 0 of a row at the right, of a column at y = 14. */
    private void ruleSeedsAndSteps() {
        for (int c = 1; c <= 15; c += 2) {
            int r = 16 - c;
            Bench x = new Bench();
            x.rule(3, 12, c, r, 0x5A5A5, 0x3C96A);
            for (int i = 0; i < c; i++) {
                is("24: the row's bit " + i, x.at(c - 1 - i, 15), 4 + (0x5A5A5 >> i) % 2);
            }
            for (int px = 0; px < c; px++) {
                is("24: the row's STEP at " + px, x.of(px, 15, 3), px);
            }
            for (int j = 0; j < r; j++) {
                is("24: the column's bit " + j, x.at(c, 14 - j), 6 + (0x3C96A >> j) % 2);
                is("24: the column's STEP", x.of(c, 14 - j, 3), c + j);
            }
            is("18: nothing beyond the row", x.at(c, 15), NONE);
            is("18: nothing beyond the column", r == 15 || x.at(c, 14 - r) == NONE, true);
            is("26: UNDONE from the last on", x.undo(1) == 1 && x.at(c, 15 - r) == NONE, true);
            is("26: all UNDONE", x.undo(c + r - 1), c + r - 1);
            is("29: clear", x.about(1), 0);
        }
    }

    /** What PIECES 0 to 7 are: KIND, MARK and the GLUE at each side. */
    private void rulePieces() {
        for (int f = 0; f < 16; f += 5) {
            for (int g = 1; g < 16; g += 7) {
                for (int number = 0; number < 8; number++) {
                    pieceOfRule(f, g, number);
                }
            }
        }
    }

    private static void pieceOfRule(int f, int g, int number) {
        int[][] seeds = {{1, 0, 0, 0}, {2, 0, 0, 0}, {0, 0, 0, 3}, {0, 0, 0, 4}};
        int up = f >> number & 1;
        int left = g >> number & 1;
        int[] sides = number < 4 ? new int[] {1 + up, 3 + number % 2, 1 + number / 2, 3 + left} : seeds[number - 4];
        Bench x = new Bench();
        x.rule(f, g, 1, 1, 0, 0);
        x.clear();
        for (int glue = 1; glue <= 5; glue++) {
            x.piece(0, glue, glue, glue, glue, 0);
        }
        String name = "24: PIECE " + number + " of " + f + ", " + g;
        is(name, number < 4 ? x.force(number, 8, 8) : x.seed(number, 8, 8), true);
        is(name + ": KIND", x.of(8, 8, 0), number < 4 ? 5 : 1);
        is(name + ": MARK", x.of(8, 8, 1), number < 4 ? 1 + up : 0);
        for (int d = 0; d < 4; d++) {
            for (int glue = 1; glue <= 5; glue++) {
                is(name + ": side " + d + " GLUE " + glue, x.hold(7 + glue, 8 + Benches.DX[d], 8 + Benches.DY[d]),
                    sides[d] == glue ? 1 : 0);
            }
        }
        x.clear();
        x.warmth(1);
        x.force(8, 8, 9);
        x.force(8, 8, 7);
        x.force(10, 9, 8);
        x.force(10, 7, 8);
        is(name + ": no barred sides", number >= 4 || x.hold(number, 8, 8) == 0 || x.may(number, 8, 8), true);
    }

    private void ruleOfAllRules() {
        for (int f = 0; f < 16; f++) {
            for (int g = 0; g < 16; g++) {
                Bench x = new Bench();
                x.rule(f, g, 3, 2, f + g, f ^ g);
                is("17: RULE " + f + ", " + g + " grows", x.grow(250), 6);
                int line = f + g;
                for (int j = 0; j < 2; j++) {
                    int carried = (f ^ g) >> j & 1;
                    int next = 0;
                    for (int i = 0; i < 3; i++) {
                        int k = 2 * (line >> i & 1) + carried;
                        next |= (f >> k & 1) << i;
                        carried = g >> k & 1;
                    }
                    line = next;
                    is("25: RULE " + f + ", " + g + " line " + j, x.row(14 - j, 3), line);
                }
                is("23: a RULE is ORDERLY", x.orderly(), 1);
            }
        }
    }

    private void ruleClears() {
        Picture fresh = Picture.ofSheet(() -> ruleOf(5, 7));
        fresh.isLike(DUE, "24: all that was grown is cleared", Picture.ofSheet(() -> {
            Bench x = Benches.grown();
            x.rule(6, 8, 4, 3, 5, 7);
            return x;
        }));
        fresh.isLike(DUE, "24: a full SHEET is cleared", Picture.ofSheet(() -> {
            Bench x = Benches.full();
            x.rule(6, 8, 4, 3, 5, 7);
            return x;
        }));
        fresh.isLike(DUE, "24: what was brought back is cleared", Picture.ofSheet(() -> {
            Bench x = Benches.grown();
            x.back(1);
            x.rule(6, 8, 4, 3, 5, 7);
            return x;
        }));
        fresh.isLike(DUE, "24: 40 PIECES, 50 GLUES and THE WARMTH are cleared", Picture.ofSheet(() -> {
            Bench x = new Bench();
            for (int glue = 1; glue <= 50; glue++) {
                x.glue(glue, 3);
            }
            for (int i = 0; i < 40; i++) {
                x.piece(2 + i % 4, 1 + i, 2, 3, 4, i % 4 == 3 ? 31 : 0);
            }
            x.warmth(3);
            x.rule(6, 8, 4, 3, 5, 7);
            return x;
        }));
    }

    /** GLUES 1 to 4 have STRENGTH 1, all others none, and 0 is still no GLUE. */
    private void ruleGlues() {
        for (int half = 0; half < 2; half++) {
            Bench x = new Bench();
            for (int glue = 1; glue <= 50; glue++) {
                x.glue(glue, 3);
            }
            x.rule(6, 8, 4, 3, 5, 7);
            for (int px = 0; px < 4; px++) {
                is("24: SEEDS of a row do not HOLD", x.of(px, 15, 2), 0);
            }
            is("24: nor those of a column", x.of(4, 13, 2), 0);
            for (int glue = 1 + 25 * half; glue <= 25 + 25 * half; glue++) {
                x.clear();
                int piece = x.piece(0, glue, 0, glue, 0, 0);
                x.force(piece, 8, 8);
                is("24: STRENGTH of GLUE " + glue, x.hold(piece, 8, 9), glue <= 4 ? 1 : 0);
            }
        }
    }

    /** 40 PIECES of one KIND before: nothing of what they showed or barred is left. */
    private void ruleForgetsKinds() {
        for (int kind = 0; kind <= 5; kind++) {
            Bench x = new Bench();
            for (int i = 0; i < 40; i++) {
                x.piece(kind, 2, 4 - i % 2, 2 - i / 2 % 2, 4, kind == 2 ? 65 : kind == 4 ? 15 : kind == 5 ? 31 : 0);
            }
            x.rule(9, 9, 3, 3, 2, 5);
            is("14: one CHOICE, behind KIND " + kind, x.choices(), 1);
            is("17: all come", x.grow(250), 9);
            is("23: ORDERLY", x.orderly(), 1);
            int stop = x.piece(4, 1, 3, 1, 3, 0);
            int other = x.piece(4, 2, 4, 2, 4, 0);
            is("23: STOPS are no rivals", stop == 8 && other == 9 && x.orderly() == 1, true);
            x.clear();
            x.warmth(1);
            int plain = x.piece(0, 1, 1, 1, 1, 0);
            x.force(plain, 8, 8);
            for (int d = 0; d < 4; d++) {
                is("9: nothing is barred at " + d, x.may(plain, 8 + Benches.DX[d], 8 + Benches.DY[d]), true);
            }
        }
    }

    private void rowRefused() {
        for (int c : new int[] {0, 17, -1, 18, LOW, HIGH}) {
            ruled.none("25: columns " + c, x -> x.row(14, c));
        }
        for (int y : new int[] {-1, 16, -16, 17, LOW, HIGH}) {
            ruled.none("25: line " + y, x -> x.row(y, 1));
        }
        Bench x = new Bench();
        x.piece(5, 0, 0, 0, 0, 16);
        x.piece(5, 0, 0, 0, 0, 32);
        for (int line : new int[] {0, 15}) {
            for (int px = 0; px < 16; px++) {
                is("25: before all are there", x.row(line, px + 1), NONE);
                x.force(px % 5 == 0 ? 1 : 0, px, line);
                is("25: when they are", x.row(line, px + 1) != NONE, true);
            }
            is("25: 16 columns", x.row(line, 16), 0b1000010000100001);
            is("25: 15 columns", x.row(line, 15), 0b100001000010000);
            is("25: 1 column", x.row(line, 1), 1);
            is("25: 17 columns", x.row(line, 17), NONE);
            is("25: 0 columns", x.row(line, 0), NONE);
        }
    }

    private void rowMarks() {
        for (int mark = 1; mark <= 15; mark++) {
            Bench x = new Bench();
            x.piece(5, 0, 0, 0, 0, 16 * mark);
            x.piece(5, 0, 0, 0, 0, 16 * mark + 15);
            x.force(0, 0, 4);
            x.force(1, 1, 4);
            is("25: MARK " + mark, x.row(4, 1), mark <= 2 ? mark - 1 : NONE);
            is("25: MARK " + mark + " twice", x.row(4, 2), mark <= 2 ? 3 * (mark - 1) : NONE);
        }
        int[][] others = {{0, 0}, {1, 0}, {2, 0}, {3, 0}, {4, 1}, {4, 15}};
        for (int[] other : others) {
            for (int where = 0; where < 3; where++) {
                Bench x = new Bench();
                x.piece(other[0], 0, 0, 0, 0, other[1]);
                x.piece(5, 0, 0, 0, 0, 32);
                boolean put = other[0] == 1 ? x.seed(0, where, 0) : x.force(0, where, 0);
                for (int px = 0; px < 4; px++) {
                    x.force(1, px, 0);
                }
                is("25: KIND " + other[0] + " at " + where + " has no MARK", put ? x.row(0, 4) : 0, NONE);
                is("25: before it they have", x.row(0, where), where == 0 ? NONE : (1 << where) - 1);
            }
        }
        Bench x = new Bench();
        x.piece(5, 0, 0, 0, 0, 32);
        for (int px = 0; px < 16; px++) {
            x.force(0, px, 7);
        }
        is("25: 16 ones", x.row(7, 16), 65535);
        x.undo(1);
        is("25: the last PLACE is empty", x.row(7, 16), NONE);
        is("25: without it", x.row(7, 15), 32767);
    }
}
