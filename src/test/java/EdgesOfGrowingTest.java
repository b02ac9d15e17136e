import java.math.BigInteger;

/** Promises 8 to 19 and the terms behind them at their limits: what is put, comes, goes, is forced, drawn and told. */
public final class EdgesOfGrowingTest {
    private static final int NONE = GrowingTiles.NONE;
    private static final int LOW = Integer.MIN_VALUE;
    private static final int HIGH = Integer.MAX_VALUE;
    private static final Due DUE = new Due();
    /** PLACES just beyond each side of THE SHEET, and far ones. */
    private static final int[][] BEYOND = {{-1, 5}, {16, 5}, {5, -1}, {5, 16}, {-1, -1}, {16, 16}, {-1, 16}, {16, -1},
        {LOW, 5}, {HIGH, 5}, {5, LOW}, {5, HIGH}, {LOW, HIGH}, {5 + 256, 5}, {5, 5 - 16}};
    private static final int[][] CORNERS = {{0, 0}, {15, 0}, {0, 15}, {15, 15}};

    private final Unchanged clear = new Unchanged(DUE, Benches::clear);
    private final Unchanged grown = new Unchanged(DUE, Benches::grown);
    private final Unchanged seeded = new Unchanged(DUE, Benches::seeded);
    private final Unchanged full = new Unchanged(DUE, Benches::full);

    public static void main(String[] args) {
        EdgesOfGrowingTest test = new EdgesOfGrowingTest();
        test.seedRefused();
        test.seedBesideOthers();
        test.seedEverywhere();
        test.mayOfPlaces();
        test.mayOfHold();
        test.mayOfSumOfHold();
        test.mayAroundTheEdge();
        test.mayOfBlockAtTheEdge();
        test.mayBarredBesideBlock();
        test.mayBarredAtTheEdge();
        test.holdRefused();
        test.holdLimits();
        test.holdOfEdgeAndGlues();
        test.comeRefused();
        test.goRefused();
        test.goByHold();
        test.goHangsTogether();
        test.goOverBlocks();
        test.goOfFullSheet();
        test.forceRefused();
        test.forceWhatever();
        test.choicesNoneAndMany();
        test.choiceOrder();
        test.choiceFromPieceZero();
        test.choiceRefused();
        test.drawOfAnyLong();
        test.growLimits();
        test.growUntilEnded();
        test.growDrawsNoMoreThanCome();
        test.atPlaces();
        test.ofRefused();
        test.ofHalves();
        test.ofSteps();
        test.ofWeakBackByUndo();
        test.askingChangesNothing();
        DUE.end();
    }

    private static void is(String call, long got, long want) {
        DUE.is(call, got, want);
    }

    private static void is(String call, boolean got, boolean want) {
        DUE.is(call, got, want);
    }

    private static String at(int[] place) {
        return place[0] + ", " + place[1];
    }

    private void seedRefused() {
        for (int piece : new int[] {1, 2, 3, 4, 5, 6, 7, 40, -1, LOW, HIGH}) {
            clear.refused("8: PIECE " + piece + " is no SEED", x -> x.seed(piece, 5, 5));
        }
        for (int[] place : BEYOND) {
            clear.refused("8: not on THE SHEET: " + at(place), x -> x.seed(0, place[0], place[1]));
        }
        seeded.refused("8: its PLACE holds a SEED", x -> x.seed(0, 5, 5));
        seeded.refused("8: the other holds one, too", x -> x.seed(0, 9, 9));
        grown.refused("8: something but SEEDS is there", x -> x.seed(0, 15, 0));
        full.refused("8: all is full", x -> x.seed(0, 8, 8));
        for (int[] corner : CORNERS) {
            Bench x = Benches.clear();
            is("8: a SEED at " + at(corner), x.seed(0, corner[0], corner[1]), true);
            is("18: it is there", x.at(corner[0], corner[1]), 0);
            is("29: a STEP", x.about(3), 1);
        }
    }

    private void seedBesideOthers() {
        for (int kind = 1; kind <= 6; kind++) {
            Bench x = Benches.clear();
            x.force(kind, 0, 0);
            is("8: PIECE " + kind + " is FORCED there", x.seed(0, 15, 15), false);
            x.undo(1);
            is("8: it is UNDONE", x.seed(0, 15, 15), true);
            is("11: PIECE " + kind + " comes", x.come(kind, 14, 15) || x.come(kind, 13, 15), kind != 6);
            is("8: a SEED beside it, unless it could not come", x.seed(0, 3, 3), kind == 6);
        }
        Bench x = Benches.clear();
        x.seed(0, 5, 5);
        x.come(3, 6, 5);
        is("8: a WEAK one is there", x.seed(0, 9, 9), false);
        x.go(6, 5);
        is("8: it went", x.seed(0, 9, 9), true);
        x.come(1, 9, 8);
        x.keep(0);
        x.back(0);
        is("8: brought back with another", x.seed(0, 1, 1), false);
        x.clear();
        is("8: clear", x.seed(0, 1, 1), true);
        x.keep(0);
        x.back(0);
        is("8: SEEDS alone brought back", x.seed(0, 2, 1), true);
    }

    private void seedEverywhere() {
        Bench x = Benches.plain();
        for (int place = 0; place < 256; place++) {
            is("8: SEED " + place, x.seed(0, place % 16, place / 16), true);
        }
        is("29: 256 of them", x.about(1), 256);
        is("8: no PLACE is left", x.seed(0, 0, 0), false);
        is("14: no CHOICES", x.choices(), 0);
        is("19: HOLD inside", x.of(8, 8, 2), 4);
        is("19: HOLD at the edge", x.of(0, 8, 2), 3);
        is("19: HOLD in the corner", x.of(15, 15, 2), 2);
        is("19: the last STEP", x.of(15, 15, 3), 255);
        is("26: the last 200", x.undo(201) == NONE && x.undo(200) == 200, true);
        is("29: 56 are left", x.about(1), 56);
    }

    private void mayOfPlaces() {
        for (int[] corner : CORNERS) {
            Bench x = Benches.plain();
            int inX = corner[0] == 0 ? 1 : 14;
            int inY = corner[1] == 0 ? 1 : 14;
            x.seed(0, inX, corner[1]);
            is("9: to the corner " + at(corner), x.may(1, corner[0], corner[1]), true);
            x.clear();
            x.seed(0, corner[0], inY);
            is("9: to the corner along its other side", x.may(1, corner[0], corner[1]), true);
            x.clear();
            x.seed(0, corner[0], corner[1]);
            is("9: the PLACE holds something", x.may(1, corner[0], corner[1]), false);
            is("9: beside it", x.may(1, inX, corner[1]) && x.may(1, corner[0], inY), true);
            is("9: across", x.may(1, inX, inY), false);
            is("9: beyond", x.may(1, corner[0] == 0 ? -1 : 16, corner[1]), false);
            is("9: beyond the other side", x.may(1, corner[0], corner[1] == 0 ? -1 : 16), false);
        }
        for (int[] place : BEYOND) {
            grown.refused("9: beyond: " + at(place), x -> x.may(1, place[0], place[1]));
        }
        for (int piece : new int[] {-1, 7, 8, 39, 40, 63, 64, 65, LOW, HIGH}) {
            grown.refused("9: no PIECE " + piece, x -> x.may(piece, 4, 4));
        }
        Bench x = Benches.grown();
        is("9: but PIECE 1", x.may(1, 4, 4), true);
        grown.refused("9: a SEED never comes", y -> y.may(0, 4, 4));
        full.refused("9: THE SHEET is full", y -> y.may(1, 8, 8));
    }

    /** HOLD one less than THE WARMTH, just it, and one more. */
    private void mayOfHold() {
        for (int warmth = 1; warmth <= 3; warmth++) {
            for (int strength = 0; strength <= 3; strength++) {
                for (int kind = 0; kind <= 5; kind++) {
                    Bench x = new Bench();
                    x.glue(1, strength);
                    x.warmth(warmth);
                    x.piece(1, 1, 1, 1, 1, 0);
                    x.piece(kind, 1, 1, 1, 1, kind == 5 ? 16 : 0);
                    x.seed(0, 8, 8);
                    is("9: KIND " + kind + ", HOLD " + strength + ", WARMTH " + warmth, x.may(1, 9, 8),
                        strength >= warmth && kind != 1);
                    is("11: and it comes so", x.come(1, 9, 8), strength >= warmth && kind != 1);
                }
            }
        }
    }

    /** The sum over sides: each two and three of the four sides with STRENGTH 1. */
    private void mayOfSumOfHold() {
        for (int warmth = 1; warmth <= 3; warmth++) {
            for (int sides = 0; sides <= 15; sides++) {
                Bench x = Benches.plain();
                x.warmth(warmth);
                for (int d = 0; d < 4; d++) {
                    if ((sides >> d) % 2 == 1) {
                        x.seed(0, 8 + Benches.DX[d], 8 + Benches.DY[d]);
                    }
                }
                int many = Integer.bitCount(sides);
                is("10: HOLD of sides " + sides, x.hold(1, 8, 8), many);
                is("9: WARMTH " + warmth + " by sides " + sides, x.may(1, 8, 8), many >= warmth);
            }
        }
        int[][] around = {{5, 4}, {7, 5}, {5, 6}, {4, 5}, {6, 4}, {6, 6}};
        for (int warmth = 1; warmth <= 3; warmth++) {
            Bench x = Benches.plain();
            x.piece(2, 1, 1, 1, 1, 65);
            x.warmth(warmth);
            for (int i = 0; i < 6; i++) {
                x.seed(0, around[i][0], around[i][1]);
                is("10: a BLOCK's HOLD by " + (i + 1), x.hold(2, 5, 5), i + 1);
                is("9: a BLOCK at WARMTH " + warmth + " by " + (i + 1), x.may(2, 5, 5), i + 1 >= warmth);
            }
        }
    }

    /** What lies at one edge is not beside the other edge. */
    private void mayAroundTheEdge() {
        int[][] pairs = {{15, 5, 0, 5}, {15, 5, 0, 6}, {0, 5, 15, 5}, {0, 5, 15, 4}, {5, 0, 5, 15}, {5, 15, 5, 0},
            {15, 15, 0, 0}, {0, 0, 15, 15}, {15, 0, 0, 1}, {0, 15, 15, 14}};
        for (int[] p : pairs) {
            Bench x = Benches.plain();
            x.piece(2, 1, 1, 1, 1, 65);
            x.seed(0, p[0], p[1]);
            String name = p[0] + ", " + p[1] + " is not beside " + p[2] + ", " + p[3];
            is("9: " + name, x.may(1, p[2], p[3]), false);
            is("10: " + name, x.hold(1, p[2], p[3]), 0);
            is("9: nor for a BLOCK: " + name, x.may(2, Math.min(14, p[2]), p[3]), false);
            is("10: nor has it a HOLD: " + name, x.hold(2, Math.min(14, p[2]), p[3]), 0);
        }
        Bench x = Benches.plain();
        x.seed(0, 15, 15);
        is("14: in the corner there are two", x.choices(), 2);
        x.clear();
        x.seed(0, 15, 7);
        is("14: at the edge there are three", x.choices(), 3);
    }

    private void mayOfBlockAtTheEdge() {
        Bench x = Benches.clear();
        x.seed(0, 12, 5);
        is("9: a BLOCK inside", x.may(2, 13, 5), true);
        x.clear();
        x.seed(0, 13, 5);
        is("9: a BLOCK just on THE SHEET", x.may(2, 14, 5), true);
        is("11: it comes", x.come(2, 14, 5), true);
        is("18: its other PLACE", x.at(15, 5), 2);
        is("18: not the next line", x.at(0, 6), NONE);
        x.clear();
        x.seed(0, 14, 5);
        is("9: half of a BLOCK beyond", x.may(2, 15, 5), false);
        is("11: it doesn't come", x.come(2, 15, 5), false);
        is("10: nor has it a HOLD", x.hold(2, 15, 5), NONE);
        x.clear();
        x.seed(0, 1, 5);
        is("9: a BLOCK from -1 on", x.may(2, -1, 5), false);
        x.clear();
        x.seed(0, 2, 5);
        is("9: a BLOCK from 0 on", x.may(2, 0, 5), true);
        x.seed(0, 5, 5);
        is("9: two PLACES are free between", x.may(2, 3, 5), true);
        x.seed(0, 7, 5);
        is("9: one PLACE is free between", x.may(2, 6, 5), false);
        is("9: a PIECE has room there", x.may(1, 6, 5), true);
        is("9: its own PLACE holds something", x.may(2, 2, 5), false);
        is("9: its other PLACE holds something", x.may(2, 1, 5), false);
    }

    /** A barred side that is at either PLACE of a BLOCK keeps it away. */
    private void mayBarredBesideBlock() {
        int[][] beside = {{5, 4, 2}, {6, 4, 2}, {5, 6, 0}, {6, 6, 0}, {4, 5, 1}, {7, 5, 3}};
        for (int[] b : beside) {
            for (int d = 0; d < 4; d++) {
                Bench x = Benches.plain();
                x.piece(2, 1, 1, 1, 1, 65);
                x.piece(4, 1, 1, 1, 1, 1 << d);
                x.piece(5, 1, 1, 1, 1, 16 + (1 << d));
                for (int stop = 3; stop <= 4; stop++) {
                    x.clear();
                    x.force(stop, b[0], b[1]);
                    is("9: a BLOCK by one that bars " + d + " at " + b[0] + ", " + b[1], x.may(2, 5, 5), d != b[2]);
                    x.clear();
                    x.force(2, 5, 5);
                    is("9: one that bars " + d + " by a BLOCK from " + b[0] + ", " + b[1], x.may(stop, b[0], b[1]),
                        d != b[2]);
                }
            }
        }
    }

    /** A side that is barred towards the edge bars nothing, and 'barred' reaches one PLACE, not two. */
    private void mayBarredAtTheEdge() {
        Bench x = Benches.plain();
        x.piece(4, 1, 1, 1, 1, 1 + 8);
        x.piece(4, 1, 1, 1, 1, 2 + 4);
        x.seed(0, 1, 0);
        is("9: the corner above and left", x.may(2, 0, 0), true);
        is("9: but not with its right barred", x.may(3, 0, 0), false);
        x.clear();
        x.seed(0, 14, 15);
        is("9: the corner below and right", x.may(3, 15, 15), true);
        is("9: but not with its left barred", x.may(2, 15, 15), false);
        x.clear();
        x.force(3, 15, 5);
        is("9: a right side barred at the edge", x.may(1, 0, 6) || x.may(1, 0, 5), false);
        x.force(1, 0, 5);
        is("9: does not bar the other edge's line", x.may(1, 0, 6), true);
        x.force(2, 0, 9);
        x.force(1, 15, 9);
        is("9: nor does a left side", x.may(1, 15, 8), true);
        x.clear();
        x.force(3, 5, 5);
        x.force(1, 8, 5);
        is("9: two PLACES away nothing is barred", x.may(1, 7, 5), true);
        is("9: just beside it is", x.may(1, 6, 5), false);
        is("9: across it is not", x.force(1, 6, 4) && x.force(1, 7, 6) && x.may(1, 6, 6), true);
        is("13: what is FORCED is there all the same", x.force(1, 6, 5), true);
        is("10: a barred side holds", x.of(6, 5, 2), 2);
    }

    private void holdRefused() {
        for (int[] place : BEYOND) {
            grown.none("10: beyond: " + at(place), x -> x.hold(1, place[0], place[1]));
        }
        for (int piece : new int[] {-1, 7, 40, 63, 64, LOW, HIGH}) {
            grown.none("10: no PIECE " + piece, x -> x.hold(piece, 4, 4));
        }
        grown.none("10: of a PLACE with a SEED", x -> x.hold(1, 5, 5));
        grown.none("10: of a BLOCK's PLACE", x -> x.hold(1, 5, 4));
        grown.none("10: of a BLOCK's other PLACE", x -> x.hold(1, 6, 4));
        grown.none("10: what is there itself does not count", x -> x.hold(3, 4, 5));
        grown.none("10: a BLOCK whose other PLACE holds something", x -> x.hold(2, 3, 5));
        grown.none("10: a BLOCK that goes beyond", x -> x.hold(2, 15, 5));
        full.none("10: THE SHEET is full", x -> x.hold(1, 0, 0));
        is("10: of a new object there is no PIECE", new Bench().hold(0, 0, 0), NONE);
    }

    private void holdLimits() {
        for (int strength = 0; strength <= 3; strength++) {
            Bench x = Benches.plain();
            x.glue(1, strength);
            x.piece(3, 1, 1, 1, 1, 0);
            x.piece(4, 1, 1, 1, 1, 15);
            is("10: nothing beside", x.hold(1, 8, 8), 0);
            for (int d = 0; d < 4; d++) {
                x.seed(0, 8 + Benches.DX[d], 8 + Benches.DY[d]);
                is("10: " + (d + 1) + " sides with " + strength, x.hold(1, 8, 8), (d + 1) * strength);
            }
            is("10: of a SEED", x.hold(0, 8, 8), 4 * strength);
            is("10: of a WEAK one", x.hold(2, 8, 8), 4 * strength);
            is("10: of one that may not come, as it bars", x.hold(3, 8, 8), 4 * strength);
            is("9: it may not", x.may(3, 8, 8), false);
            x.force(1, 8, 8);
            is("19: there", x.of(8, 8, 2), 4 * strength);
        }
        for (int[] corner : CORNERS) {
            Bench x = Benches.plain();
            x.seed(0, corner[0] == 0 ? 1 : 14, corner[1]);
            x.seed(0, corner[0], corner[1] == 0 ? 1 : 14);
            is("10: in the corner " + at(corner), x.hold(1, corner[0], corner[1]), 2);
        }
    }

    /** Only the same GLUE at both sides holds; each side is its own. */
    private void holdOfEdgeAndGlues() {
        for (int d = 0; d < 4; d++) {
            Bench x = new Bench();
            x.glue(49, 1);
            x.glue(50, 2);
            int[] sides = {49, 49, 49, 49};
            sides[d ^ 2] = 50;
            x.piece(1, sides[0], sides[1], sides[2], sides[3], 0);
            x.piece(0, 50, 50, 50, 50, 0);
            x.piece(0, 49, 49, 49, 49, 0);
            x.seed(0, 8 + Benches.DX[d], 8 + Benches.DY[d]);
            is("10: the same GLUE at " + d, x.hold(1, 8, 8), 2);
            is("10: another GLUE at " + d, x.hold(2, 8, 8), 0);
            is("10: the other sides", x.hold(2, 8 + 2 * Benches.DX[d], 8 + 2 * Benches.DY[d]), 1);
        }
    }

    private void comeRefused() {
        for (int[] place : BEYOND) {
            grown.refused("11: beyond: " + at(place), x -> x.come(1, place[0], place[1]));
        }
        for (int piece : new int[] {-1, 7, 40, 63, 64, LOW, HIGH}) {
            grown.refused("11: no PIECE " + piece, x -> x.come(piece, 4, 4));
        }
        grown.refused("11: a SEED", x -> x.come(0, 4, 4));
        grown.refused("11: its PLACE holds something", x -> x.come(1, 5, 5));
        grown.refused("11: its PLACE holds half a BLOCK", x -> x.come(1, 6, 4));
        grown.refused("11: a BLOCK's other PLACE holds something", x -> x.come(2, 3, 5));
        grown.refused("11: nothing holds it", x -> x.come(1, 9, 9));
        grown.refused("11: it is barred", x -> x.come(1, 12, 11));
        grown.refused("11: it bars", x -> x.come(6, 5, 3));
        clear.refused("11: THE SHEET is clear", x -> x.come(1, 8, 8));
        full.refused("11: THE SHEET is full", x -> x.come(1, 8, 8));
        Bench x = Benches.grown();
        is("11: one that may", x.come(1, 4, 4), true);
        is("29: a STEP more", x.about(3), 8);
        is("29: one more there", x.about(1), 6);
        is("19: its STEP", x.of(4, 4, 3), 7);
    }

    private void goRefused() {
        for (int[] place : BEYOND) {
            grown.refused("12: beyond: " + at(place), x -> x.go(place[0], place[1]));
        }
        grown.refused("12: nothing is there", x -> x.go(5, 6));
        grown.refused("12: a SEED", x -> x.go(5, 5));
        grown.refused("12: a PIECE", x -> x.go(6, 5));
        grown.refused("12: a BLOCK", x -> x.go(5, 4));
        grown.refused("12: a BLOCK's right half", x -> x.go(6, 4));
        grown.refused("12: a STOP", x -> x.go(12, 12));
        grown.refused("12: a WEAK one, but one lies apart", x -> x.go(4, 5));
        clear.refused("12: THE SHEET is clear", x -> x.go(0, 0));
        full.refused("12: THE SHEET is full", x -> x.go(0, 0));
        for (int kind = 0; kind <= 5; kind++) {
            for (int[] corner : CORNERS) {
                Bench x = Benches.plain();
                x.piece(kind, 1, 1, 1, 1, kind == 5 ? 16 : 0);
                x.seed(0, corner[0] == 0 ? 1 : 14, corner[1]);
                boolean put = kind == 1 ? x.seed(2, corner[0], corner[1]) : x.come(2, corner[0], corner[1]);
                is("12: of KIND " + kind + " a WEAK one alone goes from " + at(corner), x.go(corner[0], corner[1]),
                    put && kind == 3);
            }
        }
    }

    /** HOLD one less than THE WARMTH, just it, and one more. */
    private void goByHold() {
        for (int warmth = 1; warmth <= 3; warmth++) {
            for (int sides = 0; sides <= 15; sides++) {
                Bench x = Benches.plain();
                x.glue(2, 1);
                x.piece(3, 1, 1, 1, 1, 0);
                x.warmth(warmth);
                ringAround(x, sides);
                x.force(2, 8, 8);
                int hold = Integer.bitCount(sides);
                is("19: HOLD", x.of(8, 8, 2), hold);
                is("12: HOLD " + hold + " at WARMTH " + warmth, x.go(8, 8), hold == warmth);
            }
        }
        for (int strength = 1; strength <= 3; strength++) {
            for (int warmth = 1; warmth <= 3; warmth++) {
                Bench x = Benches.plain();
                x.glue(1, strength);
                x.piece(3, 1, 1, 1, 1, 0);
                x.warmth(warmth);
                x.seed(0, 8, 8);
                x.force(2, 9, 8);
                is("12: by one side of " + strength + " at WARMTH " + warmth, x.go(9, 8), strength == warmth);
                is("18: away or not", x.at(9, 8), strength == warmth ? NONE : 2);
            }
        }
    }

    /** Eight around 8, 8 that hang together; those at the sides given show GLUE 1 to it, the others nothing. */
    private static void ringAround(Bench x, int sides) {
        int corner = x.piece(1, 2, 2, 2, 2, 0);
        for (int d = 0; d < 4; d++) {
            int[] faces = {2, 2, 2, 2};
            faces[d] = 0;
            faces[d ^ 2] = (sides >> d) % 2;
            x.seed(x.piece(1, faces[0], faces[1], faces[2], faces[3], 0), 8 + Benches.DX[d], 8 + Benches.DY[d]);
        }
        x.seed(corner, 7, 7);
        x.seed(corner, 9, 7);
        x.seed(corner, 7, 9);
        x.seed(corner, 9, 9);
    }

    private void goHangsTogether() {
        for (int strength = 0; strength <= 3; strength++) {
            Bench x = Benches.plain();
            x.glue(2, strength);
            x.piece(3, 1, 1, 1, 1, 0);
            x.piece(0, 2, 2, 2, 2, 0);
            x.piece(1, 1, 2, 2, 2, 0);
            x.seed(4, 8, 8);
            x.force(3, 9, 8);
            x.come(2, 8, 7);
            is("12: what is left hangs by " + strength, x.go(8, 7), strength >= 1);
        }
        Bench x = Benches.plain();
        x.piece(3, 1, 1, 1, 1, 0);
        x.seed(0, 0, 0);
        x.seed(0, 2, 0);
        x.warmth(1);
        x.come(2, 0, 1);
        is("12: two SEEDS that don't hang together", x.go(0, 1), false);
        x.come(1, 1, 0);
        is("12: now they do", x.go(0, 1), true);
        x.undo(1);
        x.force(1, 15, 15);
        is("12: one in the other corner", x.go(0, 1), false);
        x.undo(1);
        x.force(1, 15, 0);
        is("12: the end of a line is not beside the next one's start", x.go(0, 1), false);
        x.undo(1);
        x.force(1, 3, 1);
        is("12: across does not lead", x.go(0, 1), false);
        x.force(1, 2, 1);
        is("12: around the corner it does", x.go(0, 1), true);
        goTheBridge();
    }

    /** At WARMTH 2 the one in the middle is held by two that nothing else leads to one another. */
    private void goTheBridge() {
        Bench x = Benches.plain();
        x.warmth(2);
        x.piece(3, 1, 1, 1, 1, 0);
        x.seed(0, 7, 8);
        x.seed(0, 9, 8);
        is("11: between both", x.come(2, 8, 8), true);
        is("12: what is left falls apart", x.go(8, 8), false);
        is("18: it stays", x.at(8, 8), 2);
        x.force(1, 7, 9);
        x.force(1, 8, 10);
        x.force(1, 9, 9);
        is("12: it still does", x.go(8, 8), false);
        x.force(1, 7, 10);
        x.force(1, 9, 10);
        is("12: now a way leads around", x.go(8, 8), true);
        is("18: it is away", x.at(8, 8), NONE);
        Bench y = Benches.plain();
        y.piece(3, 1, 1, 1, 1, 0);
        y.seed(0, 5, 5);
        y.come(2, 6, 5);
        is("12: one alone is left", y.go(6, 5), true);
        y.clear();
        y.force(2, 5, 5);
        is("12: alone it has no HOLD", y.go(5, 5), false);
        y.force(2, 6, 5);
        is("12: the first of two", y.go(5, 5), true);
        is("12: the second is alone then", y.go(6, 5), false);
    }

    private void goOverBlocks() {
        for (int side = 0; side < 6; side++) {
            int[][] beside = {{5, 4, 2}, {7, 5, 3}, {5, 6, 0}, {4, 5, 1}, {6, 4, 2}, {6, 6, 0}};
            Bench x = Benches.plain();
            x.piece(3, 1, 1, 1, 1, 0);
            int[] glues = {0, 0, 0, 0, 0, 0};
            glues[side] = 1;
            x.piece(2, glues[0], glues[1], glues[2], glues[3], glues[4] + 64 * glues[5]);
            x.force(3, 5, 5);
            x.force(1, beside[side][0], beside[side][1]);
            int away = beside[side][2] ^ 2;
            int px = beside[side][0] + Benches.DX[away];
            int py = beside[side][1] + Benches.DY[away];
            x.force(2, px, py);
            is("12: over a BLOCK's side " + side, x.go(px, py), true);
            x.undo(1);
            x.force(1, 0, 0);
            is("12: and one apart", x.go(px, py), false);
        }
        Bench x = Benches.plain();
        x.piece(3, 1, 1, 1, 1, 0);
        x.piece(2, 1, 1, 0, 0, 0);
        x.force(3, 5, 5);
        x.force(1, 5, 4);
        x.force(1, 7, 5);
        x.force(2, 5, 3);
        is("12: a BLOCK leads from one half to the other", x.go(5, 3), true);
        x.undo(2);
        x.force(2, 8, 5);
        is("12: and back", x.go(8, 5), true);
        x.clear();
        x.force(3, 3, 5);
        x.force(3, 5, 5);
        x.force(1, 3, 4);
        x.force(2, 3, 3);
        is("12: two BLOCKS side by side whose GLUES are not the same", x.go(3, 3), false);
    }

    /** 255 others that hang together, or all but one. */
    private void goOfFullSheet() {
        for (int odd = 0; odd < 2; odd++) {
            Bench x = Benches.plain();
            x.piece(3, 0, 0, 0, 1, 0);
            x.piece(0, 0, 0, 0, 0, 0);
            for (int place = 0; place < 255; place++) {
                x.force(odd == 1 && place == 0 ? 3 : 1, place % 16, place / 16);
            }
            is("11: the last PLACE", x.come(2, 15, 15), true);
            is("29: all are there", x.about(1), 256);
            is("12: it goes, unless one of 255 hangs by nothing", x.go(15, 15), odd == 0);
        }
    }

    private void forceRefused() {
        for (int[] place : BEYOND) {
            grown.refused("13: beyond: " + at(place), x -> x.force(1, place[0], place[1]));
            grown.refused("13: a BLOCK beyond: " + at(place), x -> x.force(2, place[0], place[1]));
        }
        for (int piece : new int[] {-1, 7, 40, 63, 64, LOW, HIGH}) {
            grown.refused("13: no PIECE " + piece, x -> x.force(piece, 9, 9));
        }
        grown.refused("13: a SEED", x -> x.force(0, 9, 9));
        clear.refused("13: a SEED, though THE SHEET is clear", x -> x.force(0, 9, 9));
        grown.refused("13: its PLACE holds something", x -> x.force(1, 5, 5));
        grown.refused("13: its PLACE holds half a BLOCK", x -> x.force(1, 6, 4));
        grown.refused("13: a BLOCK whose own PLACE holds something", x -> x.force(2, 6, 5));
        grown.refused("13: a BLOCK whose other PLACE holds something", x -> x.force(2, 3, 5));
        grown.refused("13: a BLOCK that goes beyond", x -> x.force(2, 15, 9));
        full.refused("13: THE SHEET is full", x -> x.force(1, 0, 0));
    }

    private void forceWhatever() {
        for (int[] corner : CORNERS) {
            for (int piece = 1; piece <= 6; piece++) {
                Bench x = Benches.clear();
                int px = piece == 2 ? Math.min(14, corner[0]) : corner[0];
                is("13: PIECE " + piece + " in the corner " + at(corner), x.force(piece, px, corner[1]), true);
                is("18: it is there", x.at(corner[0], corner[1]), piece);
                is("29: a STEP", x.about(3) == 1 && x.about(4) == 1, true);
            }
        }
        Bench x = Benches.clear();
        x.force(6, 5, 5);
        for (int d = 0; d < 4; d++) {
            is("13: beside one that bars", x.force(d == 3 ? 6 : 1, 5 + Benches.DX[d], 5 + Benches.DY[d]), true);
        }
        x.force(1, 9, 9);
        is("13: one that bars beside another", x.force(6, 9, 8), true);
        is("13: without a HOLD", x.force(1, 0, 15), true);
        is("13: a BLOCK from 14 on", x.force(2, 14, 15), true);
        is("18: its other PLACE", x.at(15, 15), 2);
    }

    private void choicesNoneAndMany() {
        is("14: of a new object", new Bench().choices(), 0);
        clear.by("14: of a clear SHEET", Bench::choices, 0);
        full.by("14: of a full one", Bench::choices, 0);
        Bench x = Benches.plain();
        for (int i = 2; i < 40; i++) {
            x.piece(0, 1, 1, 1, 1, 0);
        }
        for (int place = 0; place < 256; place++) {
            if ((place % 16 + place / 16) % 2 == 0) {
                x.seed(0, place % 16, place / 16);
            }
        }
        is("14: 39 PIECES at 128 PLACES", x.choices(), 39 * 128);
        is("15: the first: PIECE", x.choice(0, 0), 1);
        is("15: the first: x", x.choice(0, 1), 1);
        is("15: the first: y", x.choice(0, 2), 0);
        is("15: the last: PIECE", x.choice(39 * 128 - 1, 0), 39);
        is("15: the last: x", x.choice(39 * 128 - 1, 1), 14);
        is("15: the last: y", x.choice(39 * 128 - 1, 2), 15);
        is("15: one more", x.choice(39 * 128, 0), NONE);
        is("15: the last of a PLACE", x.choice(38, 0) == 39 && x.choice(38, 1) == 1, true);
        is("15: the first of the next", x.choice(39, 0) == 1 && x.choice(39, 1) == 3, true);
        is("15: the last of a line", x.choice(39 * 8 - 1, 1) == 15 && x.choice(39 * 8 - 1, 2) == 0, true);
        is("15: the first of the next line", x.choice(39 * 8, 1) == 0 && x.choice(39 * 8, 2) == 1, true);
        is("17: one of them", x.grow(1), 1);
        is("14: 39 fewer", x.choices(), 39 * 127);
    }

    /** By y, then x, then the PIECE's number; a BLOCK by its own PLACE. */
    private void choiceOrder() {
        Bench x = Benches.clear();
        x.seed(0, 15, 0);
        x.seed(0, 0, 2);
        int lastY = -1;
        int lastX = -1;
        int lastPiece = -1;
        int many = x.choices();
        is("14: at 14, 0 four and a BLOCK at 13, at 15, 1 four and a BLOCK at 14, and so on", many, 4 * 5 + 5);
        for (int k = 0; k < many; k++) {
            int piece = x.choice(k, 0);
            int px = x.choice(k, 1);
            int py = x.choice(k, 2);
            boolean behind = py > lastY || py == lastY && (px > lastX || px == lastX && piece > lastPiece);
            is("15: CHOICE " + k + " is behind the one before", behind, true);
            is("9: it may come", x.may(piece, px, py), true);
            lastY = py;
            lastX = px;
            lastPiece = piece;
        }
    }

    /** All 40 numbers but the SEED's: also 0, which is the first. */
    private void choiceFromPieceZero() {
        Bench x = new Bench();
        x.glue(1, 2);
        for (int i = 0; i < 39; i++) {
            x.piece(0, 0, 0, 0, 1, 0);
        }
        x.piece(1, 0, 1, 0, 0, 0);
        x.seed(39, 0, 0);
        is("14: 39 at one PLACE", x.choices(), 39);
        for (int k = 0; k < 39; k++) {
            is("15: the PIECE of CHOICE " + k, x.choice(k, 0), k);
        }
        is("15: no CHOICE 39", x.choice(39, 0), NONE);
        is("20: one SHAPE for each, and what was there", x.walk(40), 40);
        is("22: the first has PIECE 0", x.way(1, 1, 0), 0);
        is("22: the last has PIECE 38", x.way(39, 1, 0), 38);
    }

    private void choiceRefused() {
        int many = Benches.grown().choices();
        is("14: there are some", many > 3, true);
        for (int k : new int[] {many, many + 1, -1, LOW, HIGH}) {
            for (int what = 0; what <= 2; what++) {
                int w = what;
                grown.none("15: no CHOICE " + k + ": what " + what, x -> x.choice(k, w));
            }
        }
        for (int what : new int[] {-1, 3, 4, LOW, HIGH}) {
            grown.none("15: the first: what " + what, x -> x.choice(0, what));
            grown.none("15: the last: what " + what, x -> x.choice(many - 1, what));
        }
        clear.none("15: there are none", x -> x.choice(0, 0));
        full.none("15: there are none any longer", x -> x.choice(0, 0));
        Bench x = Benches.grown();
        is("15: the last", x.choice(many - 1, 0) != NONE && x.choice(many - 1, 1) != NONE, true);
    }

    private static final BigInteger WORD = BigInteger.ONE.shiftLeft(64);

    /** s behind one DRAW, without a sign, by numbers that can't run over. */
    private static BigInteger drawnOnce(BigInteger s) {
        return s.multiply(new BigInteger("6364136223846793005")).add(new BigInteger("1442695040888963407")).mod(WORD);
    }

    private void drawOfAnyLong() {
        long[] starts = {0, 1, -1, Long.MIN_VALUE, Long.MAX_VALUE, Long.MIN_VALUE + 1, 1L << 33, (1L << 33) - 1,
            -(1L << 33), 1L << 32, 6364136223846793005L, -1442695040888963407L, 3037000500L, -9999999999L};
        for (long start : starts) {
            Bench x = Benches.clear();
            x.seed(0, 8, 8);
            x.draw(start);
            BigInteger s = BigInteger.valueOf(start).mod(WORD);
            for (int i = 0; i < 20; i++) {
                s = drawnOnce(s);
                int k = s.shiftRight(33).mod(BigInteger.valueOf(x.choices())).intValue();
                int piece = x.choice(k, 0);
                int px = x.choice(k, 1);
                int py = x.choice(k, 2);
                is("17: grow(1)", x.grow(1), 1);
                is("16: draw(" + start + "), DRAW " + i, x.at(px, py), piece);
                is("19: with this STEP", x.of(px, py, 3), i + 1);
            }
        }
        Bench x = Benches.seeded();
        x.draw(1);
        x.draw(2);
        Bench y = Benches.seeded();
        y.draw(2);
        x.grow(5);
        y.grow(5);
        for (int place = 0; place < 256; place++) {
            is("16: the latest counts", x.at(place % 16, place / 16), y.at(place % 16, place / 16));
        }
    }

    private void growLimits() {
        for (int n : new int[] {-1, 251, 252, 500, -250, LOW, HIGH}) {
            grown.none("17: grow(" + n + ")", x -> x.grow(n));
            clear.none("17: grow(" + n + ") of a clear SHEET", x -> x.grow(n));
        }
        for (int n : new int[] {0, 1, 2, 199, 200, 201, 249, 250}) {
            Bench x = Benches.plain();
            x.seed(0, 8, 8);
            is("17: grow(" + n + ")", x.grow(n), n);
            is("29: on THE SHEET", x.about(1), 1 + n);
            is("29: STEPS", x.about(3), 1 + n);
            is("29: to be UNDONE", x.about(4), Math.min(200, 1 + n));
        }
        grown.by("17: grow(0)", x -> x.grow(0), 0);
        clear.by("17: grow(0) of a clear SHEET", x -> x.grow(0), 0);
    }

    private void growUntilEnded() {
        clear.by("17: of a clear SHEET none comes", x -> x.grow(250), 0);
        full.by("17: of a full one none comes", x -> x.grow(250), 0);
        Bench x = Benches.plain();
        x.seed(0, 8, 8);
        is("17: grow(250)", x.grow(250), 250);
        is("17: the five that are left", x.grow(250), 5);
        is("17: none is left", x.grow(1), 0);
        for (int n = 10; n <= 14; n++) {
            Bench y = new Bench();
            y.rule(6, 8, 4, 3, 5, 7);
            is("17: grow(" + n + ") of 12", y.grow(n), Math.min(n, 12));
            is("17: and what is left", y.grow(250), 12 - Math.min(n, 12));
        }
        Bench y = new Bench();
        y.rule(6, 8, 15, 15, 1, 1);
        is("17: 225", y.grow(250), 225);
    }

    /** s goes on by one DRAW for each that comes, and by none if none does. */
    private void growDrawsNoMoreThanCome() {
        Bench x = Benches.plain();
        x.draw(7);
        x.grow(0);
        x.grow(250);
        x.grow(-1);
        x.grow(251);
        x.seed(0, 8, 8);
        x.grow(0);
        x.grow(251);
        x.grow(3);
        x.grow(0);
        x.grow(3);
        Bench y = Benches.plain();
        y.draw(7);
        y.seed(0, 8, 8);
        y.grow(6);
        for (int place = 0; place < 256; place++) {
            is("17: the same DRAWS", x.of(place % 16, place / 16, 3), y.of(place % 16, place / 16, 3));
        }
        Picture ended = Picture.of(() -> grownOn(250));
        Picture just = Picture.of(() -> grownOn(12));
        ended.isLike(DUE, "17: ENDED, none is drawn", just);
    }

    /** A RULE grown by so many at most, 12 of which are UNDONE: s is as those DRAWS left it. */
    private static Bench grownOn(int n) {
        Bench x = new Bench();
        x.rule(6, 8, 4, 3, 5, 7);
        x.draw(7);
        x.grow(n);
        x.undo(12);
        return x;
    }

    private void atPlaces() {
        for (int[] place : BEYOND) {
            grown.none("18: beyond: " + at(place), x -> x.at(place[0], place[1]));
            full.none("18: beyond a full SHEET: " + at(place), x -> x.at(place[0], place[1]));
        }
        for (int[] corner : CORNERS) {
            Bench x = Benches.plain();
            is("18: nothing at " + at(corner), x.at(corner[0], corner[1]), NONE);
            x.seed(0, corner[0], corner[1]);
            is("18: PIECE 0 at " + at(corner), x.at(corner[0], corner[1]), 0);
        }
        Bench x = new Bench();
        for (int i = 0; i < 39; i++) {
            x.piece(0, 0, 0, 0, 0, 0);
        }
        x.piece(2, 0, 0, 0, 0, 0);
        x.force(38, 13, 7);
        x.force(39, 14, 7);
        is("18: PIECE 38", x.at(13, 7), 38);
        is("18: PIECE 39, a BLOCK", x.at(14, 7), 39);
        is("18: at both its PLACES", x.at(15, 7), 39);
        is("18: and nowhere else", x.at(0, 8) == NONE && x.at(12, 7) == NONE && x.at(14, 8) == NONE, true);
    }

    private void ofRefused() {
        for (int what = 0; what <= 3; what++) {
            int w = what;
            for (int[] place : BEYOND) {
                grown.none("19: beyond: " + at(place) + " what " + what, x -> x.of(place[0], place[1], w));
            }
            grown.none("19: nothing there, what " + what, x -> x.of(9, 9, w));
            grown.none("19: what went, what " + what, x -> x.of(5, 6, w));
            clear.none("19: a clear SHEET, what " + what, x -> x.of(0, 0, w));
        }
        for (int what : new int[] {-1, 4, 5, 7, LOW, HIGH}) {
            grown.none("19: what " + what, x -> x.of(5, 5, what));
            grown.none("19: of a right half what " + what, x -> x.of(6, 4, what));
            grown.none("19: of nothing what " + what, x -> x.of(9, 9, what));
        }
    }

    private void ofHalves() {
        Bench x = Benches.clear();
        x.seed(0, 13, 15);
        x.come(2, 14, 15);
        int[][] want = {{1, 0, 1, 0}, {2, 0, 1, 1}, {7, 0, 1, 1}};
        for (int i = 0; i < 3; i++) {
            for (int what = 0; what <= 3; what++) {
                is("19: of(" + (13 + i) + ", 15, " + what + ")", x.of(13 + i, 15, what), want[i][what]);
            }
        }
        int[] kinds = {1, 0, 2, 3, 4, 5, 4};
        for (int piece = 1; piece <= 6; piece++) {
            x.clear();
            x.force(piece, 3, 3);
            is("19: KIND of PIECE " + piece, x.of(3, 3, 0), kinds[piece]);
            is("19: MARK of PIECE " + piece, x.of(3, 3, 1), piece == 5 ? 15 : 0);
            is("19: HOLD of PIECE " + piece, x.of(3, 3, 2), 0);
            is("19: STEP of PIECE " + piece, x.of(3, 3, 3), 0);
        }
        Bench y = Benches.plain();
        y.glue(1, 3);
        y.piece(2, 1, 1, 1, 1, 65);
        y.force(2, 5, 5);
        y.force(2, 7, 5);
        y.force(2, 3, 5);
        is("19: two BLOCKS at its sides", y.of(5, 5, 2), 6);
        is("19: the same of its other half", y.of(6, 5, 2), 6);
        is("19: one BLOCK at its left", y.of(8, 5, 2), 3);
        y.force(2, 4, 4);
        is("19: over the seam: its other one's below", y.of(4, 4, 2), 6);
    }

    private void ofSteps() {
        Bench x = Benches.full();
        boolean[] seen = new boolean[256];
        int found = 0;
        for (int place = 0; place < 256; place++) {
            int step = x.of(place % 16, place / 16, 3);
            if (step >= 0 && step < 256 && !seen[step]) {
                seen[step] = true;
                found++;
            }
        }
        is("19: STEPS 0 to 255, each once, though 200 are kept", found, 256);
        is("19: the first", x.of(8, 8, 3), 0);
        Bench y = Benches.grown();
        is("19: a STEP that went counts", y.of(12, 12, 3), 6);
        y.undo(1);
        y.force(1, 9, 9);
        is("19: what is UNDONE does not", y.of(9, 9, 3), 6);
        y.keep(0);
        y.back(0);
        for (int[] place : new int[][] {{5, 5}, {6, 5}, {5, 4}, {6, 4}, {4, 5}, {9, 9}}) {
            is("19: NONE behind back() at " + at(place), y.of(place[0], place[1], 3), NONE);
        }
        y.force(1, 0, 0);
        is("19: from 0 on behind back()", y.of(0, 0, 3), 0);
        is("19: the others still NONE", y.of(5, 5, 3), NONE);
    }

    private void ofWeakBackByUndo() {
        Bench x = Benches.plain();
        x.piece(3, 1, 1, 1, 1, 0);
        x.seed(0, 5, 5);
        x.come(1, 5, 6);
        x.come(2, 6, 5);
        x.come(1, 4, 5);
        x.go(6, 5);
        x.come(1, 6, 5);
        is("19: another is there", x.of(6, 5, 3), 5);
        x.undo(2);
        is("19: the WEAK one is back as before", x.at(6, 5) == 2 && x.of(6, 5, 3) == 2, true);
        x.go(6, 5);
        x.come(2, 6, 5);
        is("19: come again it has another STEP", x.of(6, 5, 3), 5);
        x.go(6, 5);
        x.undo(1);
        is("19: back as before, the second time", x.of(6, 5, 3), 5);
        x.undo(2);
        is("19: back as before, the first time", x.of(6, 5, 3), 2);
        x.keep(0);
        x.back(0);
        x.go(6, 5);
        x.undo(1);
        is("19: behind back() NONE as before", x.at(6, 5) == 2 && x.of(6, 5, 3) == NONE, true);
    }

    private void askingChangesNothing() {
        grown.by("9: may()", x -> x.may(1, 4, 4) ? 1 : 0, 1);
        grown.by("10: hold()", x -> x.hold(1, 4, 4), 2);
        grown.by("14: choices()", Bench::choices, Benches.grown().choices());
        grown.by("15: choice()", x -> x.choice(0, 2), 3);
        grown.by("18: at()", x -> x.at(5, 5), 0);
        grown.by("19: of()", x -> x.of(5, 5, 2), 3);
        grown.by("21: ways()", x -> x.ways(3), 3);
        grown.by("22: way()", x -> x.way(0, 3, 3), 0);
        grown.by("23: orderly()", Bench::orderly, NONE);
        grown.by("25: row()", x -> x.row(5, 3), NONE);
        grown.by("27: keep(3)", x -> x.keep(3) ? 1 : 0, 0);
        grown.by("29: about()", x -> x.about(1), 5);
    }
}
