/** Each promise of the document by itself: what is ordinary, the edges that the document names, and wrong inputs. */
public final class PromiseTest {
    private static final int NONE = GrowingTiles.NONE;
    private static final int LOW = Integer.MIN_VALUE;
    private static final int HIGH = Integer.MAX_VALUE;
    private static final Due DUE = new Due();

    public static void main(String[] args) {
        newObject();
        glue();
        piece();
        pieceMostly40();
        feed();
        set();
        setEnds();
        warmth();
        clear();
        seed();
        may();
        mayByBars();
        mayBlock();
        mayAtWarmth3();
        mayAsThingsChange();
        hold();
        come();
        go();
        goHangsByBlocks();
        force();
        choicesAndChoice();
        drawAndGrow();
        growLimits();
        at();
        of();
        ofSteps();
        walk();
        walkSpent();
        walkFromCorners();
        walkLimits();
        ways();
        wayStays();
        orderlyAsked();
        orderlyFaults();
        orderlyLongRuns();
        rule();
        ruleClears();
        ruleClearsKinds();
        ruleSeeds();
        row();
        undo();
        undoLast200();
        keepAndBack();
        backAndSteps();
        backToOtherKinds();
        about();
        DUE.end();
    }

    private static void is(String call, long got, long want) {
        DUE.is(call, got, want);
    }

    private static void is(String call, boolean got, boolean want) {
        DUE.is(call, got, want);
    }

    /** GLUE 1 with STRENGTH 1, THE WARMTH 1, SEED 0 and PIECE 1 with GLUE 1 all around. */
    private static Bench plain() {
        Bench x = new Bench();
        x.glue(1, 1);
        x.warmth(1);
        x.piece(1, 1, 1, 1, 1, 0);
        x.piece(0, 1, 1, 1, 1, 0);
        return x;
    }

    private static void newObject() {
        Bench x = new Bench();
        int[] abouts = {0, 0, 2, 0, 0, 0};
        for (int what = 0; what < 6; what++) {
            is("1: about(" + what + ")", x.about(what), abouts[what]);
        }
        is("1: ways(0)", x.ways(0), NONE);
        is("1: way(0, 0, 0)", x.way(0, 0, 0), NONE);
        is("1: choices()", x.choices(), 0);
        is("1: at(0, 0)", x.at(0, 0), NONE);
        is("1: orderly()", x.orderly(), 1);
        x.glue(1, 3);
        x.piece(1, 1, 1, 1, 1, 0);
        x.warmth(3);
        x.seed(0, 3, 3);
        is("1: back(2) to what was new", x.back(2), true);
        is("1: PIECES", x.about(0), 0);
        is("1: on THE SHEET", x.about(1), 0);
        is("1: THE WARMTH", x.about(2), 2);
        x.piece(1, 1, 1, 1, 1, 0);
        x.seed(0, 3, 3);
        is("1: GLUES without STRENGTH", x.hold(0, 3, 4), 0);
        Bench y = new Bench();
        y.draw(99);
        y.back(1);
        y.glue(1, 1);
        y.warmth(1);
        y.piece(1, 1, 1, 1, 1, 0);
        y.piece(0, 1, 1, 1, 1, 0);
        y.seed(0, 8, 8);
        y.grow(12);
        Bench z = plain();
        z.seed(0, 8, 8);
        z.grow(12);
        for (int place = 0; place < 256; place++) {
            is("1: s of an IMAGE is 0", y.of(place % 16, place / 16, 3), z.of(place % 16, place / 16, 3));
        }
    }

    private static void glue() {
        Bench x = plain();
        is("2: glue(50, 3)", x.glue(50, 3), true);
        is("2: glue(50, 0)", x.glue(50, 0), true);
        is("2: glue(51, 1)", x.glue(51, 1), false);
        is("2: glue(0, 1)", x.glue(0, 1), false);
        is("2: glue(low, 1)", x.glue(LOW, 1), false);
        is("2: glue(high, 1)", x.glue(HIGH, 1), false);
        is("2: glue(1, 4)", x.glue(1, 4), false);
        is("2: glue(1, -1)", x.glue(1, -1), false);
        x.seed(0, 5, 5);
        is("2: not clear", x.glue(1, 3), false);
        is("2: nothing done", x.hold(1, 5, 6), 1);
        x.undo(1);
        is("2: clear again", x.glue(1, 3), true);
        x.seed(0, 5, 5);
        is("2: STRENGTH 3", x.hold(1, 5, 6), 3);
    }

    private static void piece() {
        Bench x = new Bench();
        int[][] can = {
            {0, 50, 0, 0, 0, 0}, {1, 0, 50, 0, 0, 0}, {3, 0, 0, 50, 0, 0}, {0, 0, 0, 0, 50, 0}, {2, 0, 0, 0, 0, 0},
            {2, 1, 2, 3, 4, 50}, {2, 1, 2, 3, 4, 3200}, {2, 1, 2, 3, 4, 3250}, {2, 0, 0, 0, 0, 64}, {4, 0, 0, 0, 0, 0},
            {4, 0, 0, 0, 0, 15}, {5, 0, 0, 0, 0, 16}, {5, 0, 0, 0, 0, 255},
        };
        for (int i = 0; i < can.length; i++) {
            int[] a = can[i];
            is("3: can " + i, x.piece(a[0], a[1], a[2], a[3], a[4], a[5]), i);
        }
        int[][] cannot = {
            {6, 0, 0, 0, 0, 0}, {-1, 0, 0, 0, 0, 0}, {LOW, 0, 0, 0, 0, 0}, {7, 0, 0, 0, 0, 0}, {0, 51, 0, 0, 0, 0},
            {0, 0, 51, 0, 0, 0}, {0, 0, 0, 51, 0, 0}, {0, 0, 0, 0, 51, 0}, {0, -1, 0, 0, 0, 0}, {0, 0, -1, 0, 0, 0},
            {0, 0, 0, -1, 0, 0}, {0, 0, 0, 0, -1, 0}, {0, HIGH, 0, 0, 0, 0}, {0, 0, 0, 0, 0, 1}, {1, 0, 0, 0, 0, 1},
            {3, 0, 0, 0, 0, 16}, {2, 0, 0, 0, 0, 51}, {2, 0, 0, 0, 0, 63}, {2, 0, 0, 0, 0, 3251}, {2, 0, 0, 0, 0, 3264},
            {2, 0, 0, 0, 0, -1}, {2, 0, 0, 0, 0, -64}, {2, 0, 0, 0, 0, LOW}, {2, 0, 0, 0, 0, HIGH}, {4, 0, 0, 0, 0, 16},
            {4, 0, 0, 0, 0, -1}, {5, 0, 0, 0, 0, 15}, {5, 0, 0, 0, 0, 0}, {5, 0, 0, 0, 0, 256}, {5, 0, 0, 0, 0, -16},
        };
        for (int i = 0; i < cannot.length; i++) {
            int[] a = cannot[i];
            is("3: can't " + i, x.piece(a[0], a[1], a[2], a[3], a[4], a[5]), NONE);
        }
        is("3: about(0)", x.about(0), can.length);
    }

    private static void pieceMostly40() {
        Bench x = plain();
        x.seed(0, 5, 5);
        is("3: CHOICES before", x.choices(), 4);
        Bench y = plain();
        y.seed(0, 5, 5);
        is("3: CHOICES before", y.choices(), 4);
        y.piece(0, 1, 0, 0, 0, 0);
        is("3: CHOICES with one more", y.choices(), 5);
        y.feed(0x00010000, 0, 0, 0, 0);
        is("5: set(8)", y.set(8), 1);
        is("5: CHOICES with one more", y.choices(), 6);
        for (int i = 2; i < 40; i++) {
            is("3: PIECE " + i, x.piece(0, 1, 1, 1, 1, 0), i);
        }
        is("3: the 41st", x.piece(0, 1, 1, 1, 1, 0), NONE);
        is("3: about(0)", x.about(0), 40);
        is("3: new PIECES may come to what is there", x.choices(), 4 * 39);
        is("3: the last CHOICE", x.choice(4 * 39 - 1, 0), 39);
        is("3: come(39, 5, 6)", x.come(39, 5, 6), true);
        is("3: at", x.at(5, 6), 39);
    }

    private static void feed() {
        Bench x = new Bench();
        for (int i = 1; i <= 20; i++) {
            is("4: feed " + i, x.feed(i, -1, 0, HIGH, LOW), 20 * i);
        }
        is("4: the 21st", x.feed(0, 0, 0, 0, 0), NONE);
        is("4: about(5)", x.about(5), 400);
        is("4: set(0) empties", x.set(0), 0);
        is("4: about(5) then", x.about(5), 0);
        is("4: feed anew", x.feed(0, 0, 0, 0, 0), 20);
        x.back(0);
        is("4: the TAPE is in no IMAGE", x.about(5), 20);
    }

    private static void set() {
        Bench x = new Bench();
        x.glue(1, 1);
        x.glue(50, 2);
        x.warmth(1);
        x.feed(0x01320001, 0x00FF0000, 0x02010001, 0x32FF0C81, 0x05000000);
        x.feed(0x01000021, 0x03010101, 0x01000000, 0, 0);
        is("5: set(41)", x.set(41), NONE);
        is("5: set(-1)", x.set(-1), NONE);
        is("5: set(low)", x.set(LOW), NONE);
        is("5: nothing done", x.about(5), 40);
        is("5: set(40)", x.set(40), 5);
        is("5: the TAPE is empty", x.about(5), 0);
        is("5: about(0)", x.about(0), 5);
        is("5: a SEED", x.seed(0, 5, 5), true);
        is("5: a BLOCK's above is 1", x.hold(1, 5, 6), 1);
        is("5: a BLOCK's other's below is 50", x.hold(1, 4, 4), 2);
        is("5: a BLOCK's other's above is 1", x.hold(1, 4, 6), 1);
        is("5: a BLOCK's left is 50", x.force(1, 8, 8) ? x.hold(1, 6, 8) : NONE, 0);
        is("5: a WEAK one's right is 1", x.hold(3, 7, 8), 0);
        is("5: a WEAK one's above is 1", x.hold(3, 8, 9), 1);
        is("5: MARKED bars above alone", x.force(2, 10, 10) ? x.of(10, 10, 1) : NONE, 2);
        is("5: WEAK", x.force(3, 12, 12) ? x.of(12, 12, 0) : NONE, 3);
        is("5: a PIECE of nothing", x.force(4, 14, 14) ? x.of(14, 14, 0) : NONE, 0);
    }

    private static void setEnds() {
        Bench x = new Bench();
        x.feed(0, 0, 0x06000000, 0, 0);
        x.feed(0, 0, 0, 0, 0);
        is("5: until the first that can't be", x.set(40), 1);
        is("5: empty then", x.about(5), 0);
        x.feed(0, 0, 0, 0, 0);
        is("5: cut off", x.set(20), 2);
        x.feed(0, 0, 0, 0, 0);
        is("5: seven bytes", x.set(7), 0);
        is("5: empty even so", x.about(5), 0);
        x.feed(0, 0, 0, 0, 0);
        is("5: the first n only", x.set(8), 1);
        is("5: all empty then", x.about(5), 0);
        for (int i = 0; i < 20; i++) {
            x.feed(0, 0, 0, 0, 0);
        }
        is("5: 40 at most", x.set(400), 36);
        is("5: about(0)", x.about(0), 40);
        x.feed(0x02000000, 0x00003300, 0, 0, 0);
        x.back(0);
        is("5: a BLOCK's MORE may be too high", x.set(20), 0);
        x.feed(0xFF000000, 0, 0, 0, 0);
        is("5: bytes have no sign", x.set(20), 0);
        int[] dx = {0, 1, 0, -1};
        int[] dy = {-1, 0, 1, 0};
        for (int d = 0; d < 4; d++) {
            Bench y = plain();
            y.feed(d < 3 ? 1 << 8 * (2 - d) : 0, d < 3 ? 0 : 1 << 24, 0, 0, 0);
            is("5: one PIECE", y.set(8), 1);
            y.seed(0, 8, 8);
            for (int e = 0; e < 4; e++) {
                is("5: side " + d + " from " + e, y.hold(2, 8 - dx[e], 8 - dy[e]), d == e ? 1 : 0);
            }
        }
    }

    private static void warmth() {
        Bench x = plain();
        is("6: warmth(0)", x.warmth(0), false);
        is("6: warmth(4)", x.warmth(4), false);
        is("6: warmth(low)", x.warmth(LOW), false);
        is("6: about(2)", x.about(2), 1);
        is("6: warmth(3)", x.warmth(3), true);
        is("6: about(2)", x.about(2), 3);
        x.seed(0, 5, 5);
        is("6: not clear", x.warmth(1), false);
        is("6: HOLD 1 is not 3", x.choices(), 0);
        x.clear();
        is("6: clear", x.warmth(1), true);
        x.seed(0, 5, 5);
        is("6: HOLD 1 is 1", x.choices(), 4);
    }

    private static void clear() {
        Bench x = plain();
        x.piece(2, 1, 1, 1, 1, 0);
        x.seed(0, 5, 5);
        x.come(2, 6, 5);
        x.come(1, 4, 5);
        is("7: clear()", x.clear(), 3);
        is("7: clear() again", x.clear(), 0);
        is("7: about(1)", x.about(1), 0);
        is("7: about(3)", x.about(3), 0);
        is("7: about(4)", x.about(4), 0);
        is("7: undo(1)", x.undo(1), NONE);
        is("7: at", x.at(7, 5), NONE);
        is("7: choices()", x.choices(), 0);
        is("7: PIECES stay", x.about(0), 3);
        is("7: a SEED again", x.seed(0, 5, 5), true);
        is("7: STEPS from 0 on", x.of(5, 5, 3), 0);
        is("7: GLUES stay", x.hold(1, 5, 4), 1);
    }

    private static void seed() {
        Bench x = plain();
        int[][] wrong = {{1, 5, 5}, {2, 5, 5}, {-1, 5, 5}, {LOW, 5, 5}, {0, -1, 5}, {0, 16, 5}, {0, 5, -1}, {0, 5, 16},
            {0, LOW, 5}, {0, 5, HIGH}};
        for (int[] a : wrong) {
            is("8: seed(" + a[0] + ", " + a[1] + ", " + a[2] + ")", x.seed(a[0], a[1], a[2]), false);
        }
        is("8: about(3)", x.about(3), 0);
        is("8: seed(0, 15, 15)", x.seed(0, 15, 15), true);
        is("8: seed(0, 0, 0)", x.seed(0, 0, 0), true);
        is("8: held already", x.seed(0, 0, 0), false);
        is("8: come", x.come(1, 0, 1), true);
        is("8: not SEEDS alone", x.seed(0, 8, 8), false);
        x.undo(1);
        is("8: SEEDS alone again", x.seed(0, 8, 8), true);
        is("8: about(1)", x.about(1), 3);
    }

    private static void may() {
        Bench x = plain();
        x.glue(2, 2);
        x.piece(0, 2, 2, 2, 2, 0);
        is("9: nothing there", x.may(1, 5, 5), false);
        x.seed(0, 0, 0);
        is("9: right of it", x.may(1, 1, 0), true);
        is("9: below it", x.may(1, 0, 1), true);
        is("9: other GLUES", x.may(2, 0, 1), false);
        is("9: across", x.may(1, 1, 1), false);
        is("9: held already", x.may(1, 0, 0), false);
        is("9: a SEED", x.may(0, 1, 0), false);
        is("9: beyond above", x.may(1, 0, -1), false);
        is("9: beyond left", x.may(1, -1, 0), false);
        is("9: no such PLACE", x.may(1, LOW, HIGH), false);
        is("9: no such PIECE", x.may(3, 1, 0), false);
        is("9: no such PIECE below", x.may(-1, 1, 0), false);
        is("9: may does nothing", x.about(1), 1);
        x.clear();
        x.warmth(2);
        x.seed(0, 15, 15);
        x.seed(0, 13, 15);
        is("9: the sum of two", x.may(1, 14, 15), true);
        is("9: one alone", x.may(1, 15, 14), false);
        is("9: no way around the edge", x.may(1, 0, 15), false);
    }

    private static void mayByBars() {
        for (int d = 0; d < 4; d++) {
            Bench x = plain();
            int[] dx = {0, 1, 0, -1};
            int[] dy = {-1, 0, 1, 0};
            x.piece(4, 1, 1, 1, 1, 1 << d);
            x.piece(5, 1, 1, 1, 1, 16 + (1 << d));
            x.piece(2, 1, 1, 1, 1, 65);
            x.seed(0, 5, 5);
            for (int e = 0; e < 4; e++) {
                boolean toSeed = (e ^ 2) == d;
                is("9: STOP " + d + " from " + e, x.may(2, 5 + dx[e], 5 + dy[e]), !toSeed);
                is("9: MARKED " + d + " from " + e, x.may(3, 5 + dx[e], 5 + dy[e]), !toSeed);
            }
            for (int stop = 2; stop < 4; stop++) {
                x.clear();
                x.seed(0, 1, 1);
                x.force(stop, 8, 8);
                for (int e = 0; e < 4; e++) {
                    is("9: beside " + stop + " at " + e, x.may(1, 8 + dx[e], 8 + dy[e]), d != e);
                }
                is("9: a BLOCK's own PLACE above " + stop, x.may(4, 8, 7), d != 0);
                is("9: a BLOCK's other PLACE above " + stop, x.may(4, 7, 7), d != 0);
                is("9: a BLOCK's own PLACE below " + stop, x.may(4, 8, 9), d != 2);
                is("9: a BLOCK's other PLACE below " + stop, x.may(4, 7, 9), d != 2);
                is("9: a BLOCK to the right of " + stop, x.may(4, 9, 8), d != 1);
                is("9: a BLOCK to the left of " + stop, x.may(4, 6, 8), d != 3);
            }
        }
    }

    private static void mayBlock() {
        Bench x = new Bench();
        for (int glue = 1; glue <= 6; glue++) {
            x.glue(glue, 1);
        }
        x.warmth(1);
        x.piece(1, 0, 0, 0, 0, 0);
        x.piece(2, 1, 2, 3, 4, 5 + 64 * 6);
        int[][] around = {{6, 4, 2, 1}, {6, 6, 0, 3}, {5, 5, 1, 4}, {7, 4, 2, 5}, {8, 5, 3, 2}, {7, 6, 0, 6}};
        for (int i = 0; i < around.length; i++) {
            int[] a = around[i];
            int[] sides = new int[4];
            sides[a[2]] = a[3];
            is("9: SEED " + i, x.piece(1, sides[0], sides[1], sides[2], sides[3], 0), i + 2);
            x.seed(i + 2, a[0], a[1]);
            is("9: a BLOCK by its side " + i, x.may(1, 6, 5), true);
            is("10: its HOLD", x.hold(1, 6, 5), 1);
            x.clear();
        }
        for (int i = 0; i < around.length; i++) {
            x.seed(i + 2, around[i][0], around[i][1]);
        }
        is("10: all six SIDES", x.hold(1, 6, 5), 6);
        is("9: may with all", x.may(1, 6, 5), true);
        x.seed(0, 7, 5);
        is("9: its other PLACE holds something", x.may(1, 6, 5), false);
        is("10: HOLD then", x.hold(1, 6, 5), NONE);
        x.clear();
        x.seed(4, 14, 9);
        is("9: half beyond", x.may(1, 15, 9), false);
        is("10: half beyond", x.hold(1, 15, 9), NONE);
        x.clear();
        x.seed(4, 13, 9);
        is("9: just on it", x.may(1, 14, 9), true);
    }

    private static void mayAtWarmth3() {
        Bench x = plain();
        x.clear();
        x.glue(2, 2);
        x.glue(3, 3);
        x.warmth(3);
        x.piece(1, 2, 2, 2, 2, 0);
        x.piece(1, 3, 3, 3, 3, 0);
        x.piece(0, 1, 2, 1, 3, 0);
        x.piece(0, 2, 1, 1, 1, 0);
        x.seed(0, 5, 4);
        x.seed(2, 6, 5);
        is("9: 1 and 2 at WARMTH 3", x.may(4, 5, 5), true);
        x.clear();
        x.seed(0, 5, 4);
        x.seed(0, 5, 6);
        is("9: 1 and 1 at WARMTH 3", x.may(1, 5, 5), false);
        x.seed(0, 4, 5);
        is("9: 1, 1 and 1 at WARMTH 3", x.may(1, 5, 5), true);
        is("9: 1 and 1 of them", x.may(4, 5, 5), false);
        x.clear();
        x.seed(2, 6, 5);
        is("9: 2 at WARMTH 3", x.may(4, 5, 5), false);
        x.clear();
        x.seed(3, 4, 5);
        is("9: 3 at WARMTH 3", x.may(4, 5, 5), true);
        x.clear();
        x.seed(2, 5, 4);
        x.seed(0, 5, 6);
        is("9: 2 and 1 at WARMTH 3", x.may(5, 5, 5), true);
    }

    /** Asked before and behind each STEP: what may come is never what might have come earlier. */
    private static void mayAsThingsChange() {
        Bench x = plain();
        x.piece(2, 1, 1, 1, 1, 65);
        int[][] spots = {{8, 9}, {7, 9}, {8, 7}, {7, 7}, {9, 8}, {6, 8}};
        for (int round = 0; round < 2; round++) {
            is("9: none", x.choices(), 0);
            for (int[] spot : spots) {
                is("9: a BLOCK by nothing", x.may(2, spot[0], spot[1]), false);
            }
            x.seed(0, 8, 8);
            for (int[] spot : spots) {
                is("9: a BLOCK at each side", x.may(2, spot[0], spot[1]), true);
            }
            is("14: ten", x.choices(), 10);
            x.undo(1);
        }
        x.seed(0, 8, 8);
        x.choices();
        x.force(1, 7, 10);
        is("9: above what is new, by its other PLACE", x.may(2, 6, 9), true);
        is("9: below what is new, by its other PLACE", x.may(2, 6, 11), true);
        is("9: to the left of what is new", x.may(2, 5, 10), true);
        x.force(1, 6, 9);
        is("9: not any longer", x.may(2, 6, 9), false);
        is("9: nor there", x.may(2, 5, 9), false);
        is("9: but there", x.may(2, 4, 9), true);
    }

    private static void hold() {
        Bench x = plain();
        x.glue(2, 3);
        x.piece(0, 0, 2, 0, 2, 0);
        x.piece(1, 0, 2, 0, 2, 0);
        is("10: nothing there", x.hold(1, 3, 3), 0);
        x.seed(0, 3, 3);
        x.seed(0, 5, 3);
        x.seed(0, 4, 2);
        x.seed(0, 4, 4);
        is("10: four sides", x.hold(1, 4, 3), 4);
        is("10: of a SEED, too", x.hold(0, 4, 3), 4);
        is("10: 0 is no GLUE, others don't hold", x.hold(2, 4, 3), 0);
        is("10: THE WARMTH does not matter", x.hold(1, 2, 3), 1);
        is("10: held already", x.hold(1, 3, 3), NONE);
        is("10: beyond", x.hold(1, -1, 3), NONE);
        is("10: beyond below", x.hold(1, 3, 16), NONE);
        is("10: far beyond", x.hold(1, HIGH, LOW), NONE);
        is("10: no such PIECE", x.hold(4, 4, 3), NONE);
        is("10: no such PIECE below", x.hold(-1, 4, 3), NONE);
        x.clear();
        x.seed(3, 3, 3);
        x.seed(3, 5, 3);
        is("10: 3 and 3", x.hold(2, 4, 3), 6);
    }

    private static void come() {
        Bench x = plain();
        x.seed(0, 5, 5);
        is("11: a PLACE without HOLD", x.come(1, 7, 5), false);
        is("11: a SEED", x.come(0, 6, 5), false);
        is("11: no such PIECE", x.come(2, 6, 5), false);
        is("11: no such PIECE below", x.come(LOW, 6, 5), false);
        is("11: no such PLACE", x.come(1, 16, 5), false);
        is("11: no such PLACE far", x.come(1, 5, HIGH), false);
        is("11: nothing done", x.about(3), 1);
        is("11: come", x.come(1, 6, 5), true);
        is("11: once", x.come(1, 6, 5), false);
        is("11: at", x.at(6, 5), 1);
        is("11: beside it", x.come(1, 7, 5), true);
        is("11: about(1)", x.about(1), 3);
        is("11: about(3)", x.about(3), 3);
    }

    private static void go() {
        Bench x = plain();
        x.piece(3, 1, 1, 1, 1, 0);
        x.seed(0, 5, 5);
        x.come(2, 6, 5);
        x.come(1, 5, 6);
        is("12: a SEED", x.go(5, 5), false);
        is("12: a PIECE", x.go(5, 6), false);
        is("12: nothing", x.go(9, 9), false);
        is("12: beyond", x.go(-1, 5), false);
        is("12: far beyond", x.go(HIGH, HIGH), false);
        x.come(2, 6, 6);
        is("12: HOLD 2 at WARMTH 1", x.go(6, 5), false);
        is("12: HOLD 2 at WARMTH 1, too", x.go(6, 6), false);
        x.undo(1);
        x.come(1, 7, 5);
        is("12: a bridge has HOLD 2", x.of(6, 5, 2), 2);
        is("12: it may not go", x.go(6, 5), false);
        x.undo(1);
        is("12: it goes", x.go(6, 5), true);
        is("12: away", x.at(6, 5), NONE);
        is("12: a STEP", x.about(3), 4);
        is("12: about(1)", x.about(1), 2);
        is("12: it may come again", x.come(2, 6, 5), true);
        x.force(1, 0, 0);
        is("12: what is left doesn't hang together", x.go(6, 5), false);
        goOfWarmth2();
    }

    private static void goOfWarmth2() {
        Bench x = new Bench();
        x.glue(1, 1);
        x.glue(2, 2);
        x.piece(1, 0, 2, 1, 0, 0);
        x.piece(0, 0, 0, 1, 2, 0);
        x.piece(3, 1, 1, 0, 0, 0);
        x.piece(3, 1, 0, 0, 1, 0);
        x.seed(0, 5, 5);
        x.come(1, 6, 5);
        x.force(2, 5, 6);
        is("12: HOLD 1 at WARMTH 2", x.go(5, 6), false);
        is("12: the corner", x.come(3, 6, 6), true);
        is("12: HOLD 2, and what is left is led around", x.go(5, 6), true);
        x.undo(1);
        x.force(2, 4, 4);
        is("12: an odd one lies apart", x.go(5, 6), false);
        x.undo(1);
        is("12: HOLD of the other", x.of(6, 6, 2), 2);
        is("12: the other goes", x.go(6, 6), true);
        is("12: then the first is held by 1", x.go(5, 6), false);
        x.clear();
        x.force(2, 3, 3);
        is("12: alone without HOLD", x.go(3, 3), false);
    }

    private static void goHangsByBlocks() {
        Bench x = plain();
        x.piece(3, 1, 1, 1, 1, 0);
        x.piece(2, 0, 1, 0, 1, 0);
        x.piece(0, 0, 0, 0, 1, 0);
        x.glue(2, 0);
        x.piece(0, 2, 2, 2, 2, 0);
        x.seed(0, 5, 5);
        x.come(3, 6, 5);
        x.come(4, 8, 5);
        x.come(2, 5, 4);
        is("12: over both halves", x.go(5, 4), true);
        x.undo(1);
        x.come(1, 5, 6);
        is("12: over both halves from the left", x.go(5, 4), true);
        x.undo(2);
        x.force(4, 7, 6);
        x.force(4, 8, 6);
        is("12: what lies below a BLOCK is not led to", x.go(5, 4), false);
        x.undo(2);
        is("12: now it is", x.go(5, 4), true);
        x.undo(1);
        x.force(5, 0, 0);
        is("12: apart", x.go(5, 4), false);
        x.undo(1);
        x.clear();
        x.seed(0, 5, 5);
        x.come(2, 5, 4);
        x.force(5, 6, 6);
        x.force(5, 6, 5);
        is("12: STRENGTH 0 leads nowhere", x.go(5, 4), false);
    }

    private static void force() {
        Bench x = plain();
        x.piece(2, 0, 0, 0, 0, 0);
        x.piece(4, 0, 0, 0, 0, 15);
        is("13: a SEED", x.force(0, 5, 5), false);
        is("13: no such PIECE", x.force(4, 5, 5), false);
        is("13: no such PIECE below", x.force(-1, 5, 5), false);
        is("13: beyond", x.force(1, 16, 0), false);
        is("13: beyond above", x.force(1, 0, -1), false);
        is("13: a PIECE on a clear SHEET", x.force(1, 0, 0), true);
        is("13: held already", x.force(1, 0, 0), false);
        is("13: a BLOCK's half beyond", x.force(2, 15, 0), false);
        is("13: a BLOCK", x.force(2, 14, 0), true);
        is("13: its other PLACE is held", x.force(1, 15, 0), false);
        is("13: a BLOCK's other PLACE is held", x.force(2, 13, 0), false);
        is("13: one that bars", x.force(3, 1, 0), true);
        is("13: what is barred", x.force(1, 1, 1), true);
        is("13: STEPS", x.about(3), 4);
        is("13: no SEEDS then", x.seed(0, 8, 8), false);
        is("13: about(1)", x.about(1), 4);
    }

    private static void choicesAndChoice() {
        Bench x = plain();
        x.piece(2, 0, 1, 0, 1, 0);
        is("14: none", x.choices(), 0);
        is("15: none", x.choice(0, 0), NONE);
        x.seed(0, 5, 5);
        is("14: six", x.choices(), 6);
        int[][] want = {{1, 5, 4}, {2, 3, 5}, {1, 4, 5}, {1, 6, 5}, {2, 6, 5}, {1, 5, 6}};
        for (int k = 0; k < 6; k++) {
            for (int what = 0; what < 3; what++) {
                is("15: choice(" + k + ", " + what + ")", x.choice(k, what), want[k][what]);
            }
        }
        is("15: choice(6, 0)", x.choice(6, 0), NONE);
        is("15: choice(-1, 0)", x.choice(-1, 0), NONE);
        is("15: choice(high, 0)", x.choice(HIGH, 0), NONE);
        is("15: choice(0, 3)", x.choice(0, 3), NONE);
        is("15: choice(0, -1)", x.choice(0, -1), NONE);
        x.undo(1);
        is("14: none again", x.choices(), 0);
        x.seed(0, 0, 0);
        is("14: in a corner", x.choices(), 3);
        x.clear();
        x.seed(0, 15, 15);
        is("14: in the other corner", x.choices(), 3);
        is("15: a BLOCK's own PLACE", x.choice(1, 1), 13);
        Bench y = new Bench();
        y.glue(1, 2);
        for (int i = 0; i < 39; i++) {
            y.piece(i % 5 == 3 ? 1 : 0, 0, 0, 0, i % 3 == 1 ? 0 : 1, 0);
        }
        y.piece(1, 0, 1, 0, 0, 0);
        y.seed(39, 8, 8);
        int k = 0;
        for (int i = 0; i < 39; i++) {
            if (i % 5 != 3 && i % 3 != 1) {
                is("15: one of many at a PLACE, from 0 on", y.choice(k, 0), i);
                k++;
            }
        }
        is("14: as many", y.choices(), k);
    }

    private static void drawAndGrow() {
        Bench x = plain();
        x.seed(0, 8, 8);
        x.draw(12345);
        long s = 12345;
        for (int i = 0; i < 30; i++) {
            s = s * 6364136223846793005L + 1442695040888963407L;
            int k = (int) ((s >>> 33) % x.choices());
            int place = x.choice(k, 1) + 16 * x.choice(k, 2);
            is("17: grow(1)", x.grow(1), 1);
            is("16, 17: what was drawn", x.of(place % 16, place / 16, 3), i + 1);
        }
        Bench y = plain();
        y.seed(0, 8, 8);
        y.draw(12345);
        is("17: grow(30)", y.grow(30), 30);
        for (int place = 0; place < 256; place++) {
            is("17: the same", y.of(place % 16, place / 16, 3), x.of(place % 16, place / 16, 3));
        }
        Bench z = plain();
        z.seed(0, 8, 8);
        Bench w = plain();
        w.seed(0, 8, 8);
        w.draw(0);
        z.grow(9);
        w.grow(9);
        for (int place = 0; place < 256; place++) {
            is("1, 16: s is 0 at first", z.of(place % 16, place / 16, 3), w.of(place % 16, place / 16, 3));
        }
    }

    private static void growLimits() {
        Bench x = plain();
        is("17: nothing there", x.grow(250), 0);
        x.seed(0, 8, 8);
        is("17: grow(-1)", x.grow(-1), NONE);
        is("17: grow(251)", x.grow(251), NONE);
        is("17: grow(low)", x.grow(LOW), NONE);
        is("17: nothing done", x.about(3), 1);
        is("17: grow(0)", x.grow(0), 0);
        is("17: grow(250)", x.grow(250), 250);
        is("17: until ENDED", x.grow(250), 5);
        is("17: full", x.about(1), 256);
        is("17: ENDED", x.grow(1), 0);
        Bench y = plain();
        y.draw(3);
        is("17: nothing to draw of", y.grow(9), 0);
        y.seed(0, 8, 8);
        y.grow(9);
        Bench z = plain();
        z.draw(3);
        z.seed(0, 8, 8);
        z.grow(9);
        for (int place = 0; place < 256; place++) {
            is("17: ENDED, none is drawn", y.of(place % 16, place / 16, 3), z.of(place % 16, place / 16, 3));
        }
        is("14: none when full", x.choices(), 0);
    }

    private static void at() {
        Bench x = plain();
        x.piece(2, 0, 0, 0, 1, 0);
        x.seed(0, 0, 0);
        x.come(2, 1, 0);
        is("18: a SEED", x.at(0, 0), 0);
        is("18: a BLOCK", x.at(1, 0), 2);
        is("18: a BLOCK's other", x.at(2, 0), 2);
        is("18: nothing", x.at(3, 0), NONE);
        is("18: beyond", x.at(-1, 0), NONE);
        is("18: beyond below", x.at(0, 16), NONE);
        is("18: far beyond", x.at(LOW, HIGH), NONE);
    }

    private static void of() {
        Bench x = plain();
        x.piece(2, 0, 1, 0, 1, 0);
        x.piece(5, 0, 0, 0, 1, 16 * 15 + 1);
        x.piece(4, 0, 0, 0, 0, 3);
        x.seed(0, 0, 0);
        x.come(2, 1, 0);
        x.come(3, 3, 0);
        x.force(4, 9, 9);
        int[][] want = {{1, 0, 1, 0}, {2, 0, 2, 1}, {7, 0, 2, 1}, {5, 15, 1, 2}};
        for (int i = 0; i < 4; i++) {
            for (int what = 0; what < 4; what++) {
                is("19: of(" + i + ", 0, " + what + ")", x.of(i, 0, what), want[i][what]);
            }
        }
        is("19: a STOP", x.of(9, 9, 0), 4);
        is("19: a STOP has no MARK", x.of(9, 9, 1), 0);
        is("19: a forced one's HOLD", x.of(9, 9, 2), 0);
        is("19: what 4", x.of(0, 0, 4), NONE);
        is("19: what -1", x.of(0, 0, -1), NONE);
        is("19: nothing", x.of(5, 5, 0), NONE);
        is("19: nothing has no MARK", x.of(5, 5, 1), NONE);
        is("19: beyond", x.of(16, 0, 0), NONE);
        is("19: far beyond", x.of(0, LOW, 2), NONE);
    }

    private static void ofSteps() {
        Bench x = plain();
        x.piece(3, 1, 1, 1, 1, 0);
        x.seed(0, 5, 5);
        x.come(2, 6, 5);
        x.come(1, 4, 5);
        x.go(6, 5);
        is("19: the 5th STEP", x.come(2, 5, 4) ? x.of(5, 4, 3) : NONE, 4);
        x.undo(2);
        is("19: back as before", x.of(6, 5, 3), 1);
        x.come(1, 5, 4);
        is("19: STEPS UNDONE don't count", x.of(5, 4, 3), 3);
        x.undo(1);
        x.go(6, 5);
        x.come(1, 6, 5);
        is("19: another at its PLACE", x.of(6, 5, 3), 4);
        x.undo(2);
        is("19: once more as before", x.of(6, 5, 3), 1);
        x.keep(0);
        x.back(0);
        is("19: NONE behind back()", x.of(6, 5, 3), NONE);
        x.go(6, 5);
        x.undo(1);
        is("19: NONE as before", x.of(6, 5, 3), NONE);
        x.come(1, 5, 4);
        is("19: from 0 on behind back()", x.of(5, 4, 3), 0);
    }

    private static void walk() {
        Bench x = plain();
        is("20: nothing there", x.walk(1), 1);
        is("21: nothing is ENDED", x.ways(1), 1);
        is("21: and has no PIECES", x.ways(3), 0);
        x.seed(0, 5, 5);
        is("20: walk(1)", x.walk(1), 1);
        is("21: CUT", x.ways(2), 1);
        is("20: walk(2)", x.walk(2), 5);
        is("20: in rounds", x.way(1, 5, 4) == 1 && x.way(2, 4, 5) == 1 && x.way(3, 6, 5) == 1 && x.way(4, 5, 6) == 1,
            true);
        is("20: walk(3) finds each once", x.walk(3), 1 + 4 + 18);
        is("21: ENDED", x.ways(1), 0);
        is("21: CUT", x.ways(2), 18);
        is("21: most", x.ways(3), 3);
        is("20: as it was", x.about(1), 1);
        is("20: no STEPS", x.about(3), 1);
        is("20: CHOICES as they were", x.choices(), 4);
        is("20: as it was there", x.at(5, 4), NONE);
        walkBlocks();
        walkWithoutGoing();
    }

    private static void walkBlocks() {
        Bench x = new Bench();
        x.glue(1, 2);
        x.piece(1, 0, 1, 0, 0, 0);
        x.piece(2, 0, 1, 0, 1, 0);
        x.piece(0, 0, 1, 0, 1, 0);
        x.seed(0, 10, 5);
        is("20: tilings of five PLACES, begun ones, too", x.walk(40), 1 + 1 + 2 + 3 + 5 + 8);
        is("21: ENDED", x.ways(1), 8);
        is("21: CUT", x.ways(2), 0);
        is("21: most", x.ways(3), 6);
        is("20: a BLOCK is one", x.walk(2), 3);
        is("21: CUT with two", x.ways(2), 2);
        is("22: the PIECE", x.way(2, 11, 5), 2);
        is("22: the BLOCK's other", x.way(1, 12, 5), 1);
        is("22: beside the PIECE", x.way(2, 12, 5), NONE);
    }

    private static void walkWithoutGoing() {
        Bench x = new Bench();
        x.glue(1, 2);
        x.piece(1, 0, 1, 0, 0, 0);
        x.piece(3, 0, 0, 0, 1, 0);
        x.piece(0, 0, 0, 0, 1, 0);
        x.seed(0, 10, 5);
        x.come(1, 11, 5);
        is("20: WEAK ones do not go", x.walk(40), 1);
        is("21: ENDED though one may go", x.ways(1), 1);
    }

    private static void walkSpent() {
        Bench x = plain();
        x.seed(0, 8, 8);
        is("20: SPENT", x.walk(40), -2);
        is("21: 300 SHAPES", x.ways(0), 300);
        is("21: none ENDED", x.ways(1), 0);
        is("21: none CUT", x.ways(2), 0);
        is("22: way(299)", x.way(299, 8, 8), 0);
        is("22: way(300)", x.way(300, 8, 8), NONE);
        is("20: as it was", x.about(1), 1);
        Bench y = new Bench();
        y.glue(1, 1);
        y.glue(2, 2);
        y.warmth(1);
        y.piece(1, 0, 1, 0, 0, 0);
        y.piece(1, 0, 2, 0, 0, 0);
        for (int i = 0; i < 12; i++) {
            y.piece(0, 0, 0, 0, 1, 0);
        }
        for (int i = 0; i < 22; i++) {
            y.piece(0, 0, 0, 0, 2, 0);
        }
        y.seed(0, 3, 3);
        y.seed(1, 3, 6);
        is("20: 13 * 23 are 299", y.walk(40), 299);
        is("21: 12 * 22 ENDED", y.ways(1), 12 * 22);
        is("20: CUT with three", y.walk(3), 1 + 12 + 22);
        is("21: all CUT", y.ways(2), 12 + 22);
        y.piece(0, 0, 0, 0, 2, 0);
        is("20: 13 * 24 are too many", y.walk(40), -2);
        is("21: until it was SPENT", y.ways(0), 300);
        is("21: of those gone through", y.ways(1), 0);
        walkJust300();
    }

    private static void walkFromCorners() {
        Bench x = new Bench();
        x.glue(1, 1);
        x.warmth(1);
        x.piece(0, 1, 1, 1, 1, 0);
        x.piece(1, 1, 1, 1, 1, 0);
        x.seed(1, 0, 1);
        is("20: up to the corner", x.walk(2), 4);
        is("22: the corner", x.way(1, 0, 0), 0);
        x.clear();
        x.seed(1, 15, 14);
        is("20: down to the corner", x.walk(2), 4);
        is("22: the other corner", x.way(3, 15, 15), 0);
        x.clear();
        x.seed(1, 1, 0);
        is("20: left to the corner", x.walk(2), 4);
        is("22: the corner", x.way(1, 0, 0), 0);
        is("22: right", x.way(2, 2, 0), 0);
        is("22: below", x.way(3, 1, 1), 0);
    }

    private static void walkJust300() {
        Bench y = new Bench();
        y.glue(1, 1);
        y.glue(2, 2);
        y.warmth(1);
        y.piece(1, 0, 1, 0, 0, 0);
        y.piece(1, 0, 2, 0, 0, 0);
        for (int i = 0; i < 11; i++) {
            y.piece(0, 0, 0, 0, 1, 0);
        }
        for (int i = 0; i < 24; i++) {
            y.piece(0, 0, 0, 0, 2, 0);
        }
        y.seed(0, 3, 3);
        y.seed(1, 3, 6);
        is("20: 12 * 25 are 300", y.walk(40), 300);
        is("21: 11 * 24 ENDED", y.ways(1), 11 * 24);
        is("22: the last", y.way(299, 4, 6), 36);
        is("22: its other", y.way(299, 4, 3), 12);
    }

    private static void walkLimits() {
        Bench x = plain();
        x.seed(0, 5, 5);
        x.come(1, 6, 5);
        is("20: walk(0)", x.walk(0), NONE);
        is("20: walk(41)", x.walk(41), NONE);
        is("20: walk(low)", x.walk(LOW), NONE);
        is("20: it has more", x.walk(1), NONE);
        is("21: none yet", x.ways(0), NONE);
        for (int i = 0; i < 59; i++) {
            is("20: walk(2)", x.walk(2), 1);
        }
        is("20: those told NONE don't count", x.walk(3), 7);
        is("20: asked 60 times", x.walk(2), NONE);
        is("21: the latest that was not NONE", x.ways(0), 7);
        x.clear();
        x.back(0);
        is("20: asked 60 times for good", x.walk(1), NONE);
        is("22: still there", x.way(0, 6, 5), 1);
    }

    private static void ways() {
        Bench x = plain();
        for (int what = -1; what < 5; what++) {
            is("21: ways(" + what + ") without", x.ways(what), NONE);
        }
        x.seed(0, 5, 5);
        x.walk(2);
        int[] want = {NONE, 5, 0, 4, 2, NONE};
        for (int what = -1; what < 5; what++) {
            is("21: ways(" + what + ")", x.ways(what), want[what + 1]);
        }
        is("21: ways(low)", x.ways(LOW), NONE);
    }

    private static void wayStays() {
        Bench x = plain();
        x.piece(2, 0, 0, 0, 1, 0);
        is("22: without", x.way(0, 0, 0), NONE);
        x.seed(0, 5, 5);
        x.come(2, 6, 5);
        x.walk(3);
        is("22: k -1", x.way(-1, 5, 5), NONE);
        is("22: k high", x.way(HIGH, 5, 5), NONE);
        is("22: beyond", x.way(0, 16, 5), NONE);
        is("22: far beyond", x.way(0, 5, LOW), NONE);
        is("22: a BLOCK", x.way(0, 6, 5), 2);
        is("22: a BLOCK's other", x.way(0, 7, 5), 2);
        is("22: what came", x.way(1, 5, 4), 1);
        is("22: not before", x.way(0, 5, 4), NONE);
        x.rule(6, 8, 3, 3, 0, 0);
        is("22: behind rule()", x.way(0, 7, 5), 2);
        is("22: what came, behind rule()", x.way(1, 5, 4), 1);
        x.back(1);
        is("22: behind back()", x.way(1, 5, 4), 1);
        is("22: a BLOCK behind back()", x.way(1, 7, 5), 2);
    }

    /** GLUES 1 and 2 with STRENGTH 1, 3 with 2; a SEED and what grows to a square of four from it. */
    private static Bench square() {
        Bench x = new Bench();
        x.glue(1, 1);
        x.glue(2, 1);
        x.glue(3, 2);
        x.piece(1, 3, 3, 0, 0, 0);
        x.piece(0, 0, 1, 3, 0, 0);
        x.piece(0, 2, 0, 0, 3, 0);
        x.piece(0, 0, 0, 2, 1, 0);
        x.seed(0, 5, 5);
        return x;
    }

    private static void orderlyAsked() {
        Bench x = square();
        is("23: not ENDED", x.orderly(), -4);
        x.grow(9);
        is("23: ORDERLY", x.orderly(), 1);
        x.undo(1);
        x.force(3, 6, 4);
        is("23: FORCED", x.orderly(), NONE);
        x.undo(1);
        x.come(3, 6, 4);
        is("23: not FORCED any longer", x.orderly(), 1);
        Bench w = square();
        w.undo(1);
        w.force(1, 5, 5);
        is("23: FORCED at first", w.orderly(), NONE);
        x.keep(0);
        x.back(0);
        is("23: behind back()", x.orderly(), NONE);
        x.clear();
        is("23: clear again", x.orderly(), 1);
        x.back(1);
        is("23: behind back() to a clear SHEET", x.orderly(), 1);
        int[][] others = {{2, 0}, {3, 0}, {4, 0}, {4, 1}, {5, 17}, {5, 16}};
        for (int[] other : others) {
            Bench y = square();
            y.piece(other[0], 0, 3, 0, 0, other[1]);
            y.piece(other[0], 0, 0, 0, 3, other[1]);
            is("23: come", y.come(5, 6, 5), true);
            is("23: KIND " + other[0] + " with " + other[1], y.orderly() == NONE, other[1] != 16);
        }
        Bench z = square();
        z.piece(3, 0, 0, 0, 3, 0);
        z.come(4, 6, 5);
        z.go(6, 5);
        is("23: one that went", z.orderly(), NONE);
        z.undo(2);
        is("23: UNDONE", z.orderly(), -4);
    }

    private static void orderlyFaults() {
        Bench x = plain();
        x.seed(0, 5, 5);
        x.come(1, 6, 5);
        x.come(1, 5, 4);
        is("23: not ENDED", x.orderly(), -4);
        x.come(1, 6, 4);
        is("23: (a) at 6, 4", x.orderly(), -2 - 4 * (6 + 16 * 4));
        x.come(1, 4, 5);
        x.come(1, 4, 4);
        is("23: (a) at the first by coming", x.orderly(), -2 - 4 * (6 + 16 * 4));
        x.piece(0, 1, 0, 0, 0, 0);
        is("23: (a) before (b)", x.orderly(), -2 - 4 * (6 + 16 * 4));
        int[][] rivals = {{0, 0, 1}, {1, 0, 0}, {2, 0, 0}, {3, 0, 1}, {4, 0, 0}, {5, 16, 1}, {5, 31, 1}};
        for (int[] rival : rivals) {
            Bench y = square();
            y.grow(9);
            is("23: ORDERLY", y.orderly(), 1);
            y.piece(rival[0], 0, 0, 2, 1, rival[1]);
            is("23: (b) with KIND " + rival[0], y.orderly(), rival[2] == 1 ? -3 - 4 * (6 + 16 * 4) : 1);
        }
        Bench z = square();
        z.come(1, 5, 4);
        z.piece(0, 0, 0, 3, 0, 0);
        z.piece(0, 0, 0, 0, 3, 0);
        is("23: (b) before (c)", z.orderly(), -3 - 4 * (5 + 16 * 4));
        orderlyOutputs();
        for (int d = 0; d < 4; d++) {
            orderlyInputs(d);
        }
    }

    /** What came earlier holds a rival at each side, though it is an INPUT and not an OUTPUT. */
    private static void orderlyInputs(int d) {
        Bench x = new Bench();
        int[] dx = {0, 1, 0, -1};
        int[] dy = {-1, 0, 1, 0};
        int[] sides = {0, 0, 0, 0};
        x.glue(1, 2);
        x.piece(1, 1, 1, 1, 1, 0);
        sides[d] = 1;
        x.piece(0, sides[0], sides[1], sides[2], sides[3], 0);
        x.seed(0, 8 + dx[d], 8 + dy[d]);
        x.come(1, 8, 8);
        is("23: no rival from " + d, x.orderly(), 1);
        x.piece(0, sides[0], sides[1], sides[2], sides[3], 0);
        is("23: a rival from " + d, x.orderly(), -3 - 4 * (8 + 16 * 8));
    }

    /** One that only what came later would hold is no rival; one held by a neighbour that is no OUTPUT is. */
    private static void orderlyOutputs() {
        Bench x = square();
        x.piece(0, 0, 1, 2, 0, 0);
        x.come(1, 5, 4);
        x.come(2, 6, 5);
        x.come(3, 6, 4);
        is("23: held by OUTPUTS only", x.orderly(), 1);
        x.piece(0, 0, 0, 3, 0, 0);
        is("23: a rival", x.orderly(), -3 - 4 * (5 + 16 * 4));
        Bench y = new Bench();
        y.glue(1, 1);
        y.glue(2, 1);
        y.warmth(1);
        y.piece(1, 0, 1, 1, 0, 0);
        y.piece(0, 0, 0, 0, 1, 0);
        y.piece(0, 1, 2, 0, 0, 0);
        y.piece(0, 2, 0, 0, 2, 0);
        y.piece(0, 0, 0, 2, 0, 0);
        y.seed(0, 5, 5);
        y.come(1, 6, 5);
        is("23: no rival yet", y.orderly(), -4);
        y.come(2, 5, 6);
        y.come(3, 6, 6);
        is("23: one that came later and is no OUTPUT holds a rival", y.orderly(), -3 - 4 * (6 + 16 * 5));
    }

    private static void orderlyLongRuns() {
        Bench x = new Bench();
        x.rule(15, 15, 13, 13, 0, 0);
        is("23: 26 + 169 STEPS", x.grow(250), 169);
        is("23: 195 STEPS", x.orderly(), 1);
        x.rule(15, 15, 13, 12, 0, 0);
        x.undo(1);
        x.rule(15, 15, 14, 12, 0, 0);
        x.grow(250);
        is("23: 194 STEPS", x.orderly(), 1);
        x.undo(100);
        x.grow(250);
        is("23: never more than 200 at once", x.orderly(), 1);
        x.rule(15, 15, 14, 13, 0, 0);
        is("23: 27 + 182 STEPS", x.grow(173), 173);
        is("23: 200 STEPS", x.orderly(), -4);
        x.grow(1);
        is("23: 201 STEPS", x.orderly(), NONE);
        x.undo(150);
        is("23: those UNDONE later, too", x.orderly(), NONE);
        x.clear();
        is("23: clear", x.orderly(), 1);
    }

    private static void rule() {
        Bench x = new Bench();
        int[][] wrong = {{-1, 0, 1, 1}, {16, 0, 1, 1}, {0, -1, 1, 1}, {0, 16, 1, 1}, {0, 0, 0, 1}, {0, 0, 16, 1},
            {0, 0, 1, 0}, {0, 0, 1, 16}, {LOW, HIGH, LOW, HIGH}};
        for (int[] a : wrong) {
            is("24: rule " + a[0] + " " + a[1] + " " + a[2] + " " + a[3], x.rule(a[0], a[1], a[2], a[3], 0, 0), NONE);
        }
        is("24: nothing done", x.about(0), 0);
        is("24: bits beyond", x.rule(6, 8, 4, 3, 5 - 16, 7 + 256), 7);
        is("24: PIECES", x.about(0), 8);
        int[] seeds = {4, 5, 4, 5};
        for (int i = 0; i < 4; i++) {
            is("24: row at " + i, x.at(i, 15), seeds[i]);
            is("24: its STEP", x.of(i, 15, 3), i);
        }
        for (int j = 0; j < 3; j++) {
            is("24: column at " + j, x.at(4, 14 - j), 7);
            is("24: its STEP", x.of(4, 14 - j, 3), 4 + j);
        }
        for (int f = 0; f < 16; f++) {
            for (int g = 0; g < 16; g++) {
                ruleByHand(f, g, 5, 6, 19 + f, 37 + g);
            }
        }
        ruleByHand(6, 8, 15, 15, 12345, 23456);
        ruleByHand(9, 14, 1, 15, -1, -2);
        ruleByHand(5, 3, 15, 1, 4711, 1);
    }

    private static void ruleByHand(int f, int g, int c, int r, int row, int column) {
        Bench x = new Bench();
        String name = "24: rule(" + f + ", " + g + ", " + c + ", " + r + ", " + row + ", " + column + ")";
        is(name, x.rule(f, g, c, r, row, column), c + r);
        is(name + " grows", x.grow(250), c * r);
        int line = row;
        for (int j = 0; j < r; j++) {
            int left = column >> j & 1;
            int next = 0;
            for (int i = 0; i < c; i++) {
                int k = 2 * (line >> i & 1) + left;
                next |= (f >> k & 1) << i;
                left = g >> k & 1;
            }
            line = next;
            is(name + " line " + j, x.row(14 - j, c), line);
        }
    }

    private static void ruleClears() {
        Bench x = plain();
        x.glue(7, 3);
        x.piece(4, 7, 7, 7, 7, 15);
        x.piece(2, 7, 7, 7, 7, 7);
        x.seed(0, 3, 3);
        x.come(1, 3, 4);
        x.feed(0, 0, 0, 0, 0);
        x.rule(0, 0, 2, 2, 0, 0);
        is("24: cleared", x.at(3, 3), NONE);
        is("24: THE WARMTH", x.about(2), 2);
        is("24: PIECES", x.about(0), 8);
        is("24: STEPS", x.about(3), 4);
        is("24: to be UNDONE", x.about(4), 4);
        is("24: the TAPE stays", x.about(5), 20);
        is("24: undo(5)", x.undo(5), NONE);
        is("24: undo(4)", x.undo(4), 4);
        x.piece(1, 7, 7, 7, 7, 0);
        x.seed(8, 5, 5);
        is("24: GLUE 7 has none", x.hold(8, 5, 6), 0);
        x.clear();
        x.seed(4, 5, 5);
        is("24: GLUE 1 has 1", x.hold(0, 5, 4), 1);
        is("24: no bars", x.force(0, 9, 9) && x.hold(0, 9, 8) == 1, true);
        is("24: MARKED", x.of(9, 9, 0), 5);
        is("24: ENDED", x.choices(), 0);
    }

    private static void ruleClearsKinds() {
        Bench x = new Bench();
        for (int i = 0; i < 20; i++) {
            x.piece(4, 1, 1, 1, 1, 15);
            x.piece(2, 1, 1, 1, 1, 65);
        }
        x.rule(9, 9, 3, 3, 2, 5);
        is("24: all come", x.grow(250), 9);
        is("24: ORDERLY", x.orderly(), 1);
        x.clear();
        x.piece(0, 1, 0, 1, 0, 0);
        x.piece(0, 0, 0, 0, 0, 0);
        x.piece(4, 0, 0, 0, 0, 1);
        x.piece(2, 1, 0, 1, 0, 65);
        x.warmth(1);
        x.seed(4, 8, 8);
        is("24: a PIECE where a STOP was", x.may(8, 8, 7), true);
        is("24: the SEED shows nothing below", x.may(8, 8, 9), false);
        is("24: no GLUE where there was one", x.may(9, 8, 7), false);
        is("24: a BLOCK", x.may(11, 8, 7) && x.may(11, 7, 7), true);
        x.come(8, 8, 7);
        is("24: no bars where there were", x.may(8, 8, 6), true);
        is("24: PIECES 0, 1, 8 and a BLOCK by both its PLACES", x.choices(), 5);
        x.clear();
        x.rule(6, 8, 1, 1, 1, 1);
        x.piece(4, 1, 4, 2, 3, 0);
        is("24: PIECE 3 comes", x.come(3, 0, 14), true);
        is("24: a STOP is no rival, though its number was", x.orderly(), 1);
    }

    /** Each SEED of a RULE shows one GLUE to one side. */
    private static void ruleSeeds() {
        Bench x = new Bench();
        int[] dx = {0, 1, 0, -1};
        int[] dy = {-1, 0, 1, 0};
        int[] sides = {0, 0, 3, 3};
        x.rule(6, 8, 1, 1, 0, 0);
        for (int glue = 1; glue <= 6; glue++) {
            x.piece(0, glue, glue, glue, glue, 0);
        }
        for (int seed = 4; seed < 8; seed++) {
            x.clear();
            is("24: it is a SEED", x.seed(seed, 8, 8), true);
            for (int glue = 1; glue <= 6; glue++) {
                for (int d = 0; d < 4; d++) {
                    boolean shown = glue == seed - 3 && d == sides[seed - 4];
                    is("24: SEED " + seed + " GLUE " + glue + " side " + d, x.hold(7 + glue, 8 + dx[d], 8 + dy[d]),
                        shown ? 1 : 0);
                }
            }
        }
        x.clear();
        x.force(12, 8, 8);
        is("24: GLUE 5 has no STRENGTH", x.hold(12, 8, 9), 0);
    }

    private static void row() {
        Bench x = new Bench();
        x.piece(5, 0, 0, 0, 0, 16);
        x.piece(5, 0, 0, 0, 0, 32 + 15);
        x.piece(5, 0, 0, 0, 0, 48);
        x.piece(0, 0, 0, 0, 0, 0);
        for (int i = 0; i < 16; i++) {
            x.force(i % 3 == 0 ? 1 : 0, i, 0);
            x.force(1, i, 15);
        }
        is("25: row(0, 16)", x.row(0, 16), 0b1001001001001001);
        is("25: row(0, 1)", x.row(0, 1), 1);
        is("25: row(0, 4)", x.row(0, 4), 9);
        is("25: row(15, 16)", x.row(15, 16), 65535);
        is("25: row(0, 0)", x.row(0, 0), NONE);
        is("25: row(0, 17)", x.row(0, 17), NONE);
        is("25: row(0, low)", x.row(0, LOW), NONE);
        is("25: row(-1, 4)", x.row(-1, 4), NONE);
        is("25: row(16, 4)", x.row(16, 4), NONE);
        is("25: row(1, 1)", x.row(1, 1), NONE);
        x.force(0, 0, 1);
        x.force(2, 1, 1);
        x.force(0, 0, 2);
        x.force(3, 1, 2);
        is("25: before it", x.row(1, 1), 0);
        is("25: MARK 3", x.row(1, 2), NONE);
        is("25: no MARK", x.row(2, 2), NONE);
    }

    private static void undo() {
        Bench x = plain();
        x.piece(2, 1, 1, 1, 1, 0);
        x.piece(3, 1, 1, 1, 1, 0);
        is("26: undo(0)", x.undo(0), 0);
        is("26: undo(1)", x.undo(1), NONE);
        is("26: undo(-1)", x.undo(-1), NONE);
        is("26: undo(low)", x.undo(LOW), NONE);
        x.seed(0, 5, 5);
        x.come(2, 6, 5);
        x.force(1, 0, 0);
        x.come(3, 0, 1);
        is("26: undo(5)", x.undo(5), NONE);
        is("26: nothing done", x.about(3), 4);
        is("26: undo(1)", x.undo(1), 1);
        is("26: away", x.at(0, 1), NONE);
        is("26: undo(2)", x.undo(2), 2);
        is("26: the BLOCK's PLACES", x.at(6, 5) == NONE && x.at(7, 5) == NONE, true);
        is("26: about(1)", x.about(1), 1);
        is("26: CHOICES", x.choices(), 4 + 4 + 4);
        x.come(3, 5, 4);
        x.go(5, 4);
        is("26: one that went is back", x.undo(1) == 1 && x.at(5, 4) == 3, true);
        is("26: about(1)", x.about(1), 2);
        is("26: all", x.undo(2), 2);
        is("26: clear", x.glue(9, 1), true);
        x.seed(0, 5, 5);
        x.draw(5);
        x.grow(3);
        int first = x.at(5, 4) + 10 * x.at(4, 5) + 100 * x.at(6, 5) + 1000 * x.at(5, 6);
        x.undo(3);
        x.draw(5);
        x.grow(3);
        is("26: the same again", x.at(5, 4) + 10 * x.at(4, 5) + 100 * x.at(6, 5) + 1000 * x.at(5, 6), first);
    }

    private static void undoLast200() {
        Bench x = plain();
        x.seed(0, 8, 8);
        x.grow(199);
        is("26: 200 can be", x.about(4), 200);
        is("26: undo(200)", x.undo(200), 200);
        is("26: clear", x.about(1), 0);
        x.seed(0, 8, 8);
        x.grow(229);
        is("29: 230 STEPS", x.about(3), 230);
        is("29: 200 of them", x.about(4), 200);
        is("26: undo(201)", x.undo(201), NONE);
        is("26: undo(150)", x.undo(150), 150);
        is("29: 80 STEPS", x.about(3), 80);
        is("29: 50 of them", x.about(4), 50);
        x.grow(30);
        is("29: 80 can be", x.about(4), 80);
        is("26: undo(81)", x.undo(81), NONE);
        is("26: undo(80)", x.undo(80), 80);
        is("26: 30 are left", x.about(1), 30);
        is("26: none can be", x.undo(1), NONE);
        for (int place = 0; place < 256; place++) {
            is("26: only the first 30", x.of(place % 16, place / 16, 3) < 30, true);
        }
    }

    private static void keepAndBack() {
        Bench x = plain();
        for (int k : new int[] {-1, 3, LOW, HIGH}) {
            is("27: keep(" + k + ")", x.keep(k), false);
            is("28: back(" + k + ")", x.back(k), false);
        }
        x.piece(2, 1, 1, 1, 1, 0);
        x.piece(4, 1, 1, 1, 1, 2);
        x.seed(0, 5, 5);
        x.come(2, 6, 5);
        x.draw(77);
        is("27: keep(1)", x.keep(1), true);
        int grown = x.grow(20);
        int[] first = new int[192];
        for (int place = 0; place < first.length; place++) {
            first[place] = x.at(place % 16, place / 16);
        }
        x.clear();
        x.glue(1, 3);
        x.warmth(3);
        x.piece(0, 1, 1, 1, 1, 0);
        x.draw(1);
        x.keep(2);
        is("28: back(1)", x.back(1), true);
        is("28: PIECES", x.about(0), 4);
        is("28: THE WARMTH", x.about(2), 1);
        is("28: GLUES", x.hold(1, 5, 4), 1);
        is("28: THE SHEET", x.at(7, 5), 2);
        is("28: about(1)", x.about(1), 2);
        is("28: not SEEDS alone", x.seed(0, 1, 1), false);
        is("28: s", x.grow(20), grown);
        for (int place = 0; place < first.length; place++) {
            is("28: as it grew before", x.at(place % 16, place / 16), first[place]);
        }
        x.back(2);
        is("28: back(2)", x.about(0), 5);
        is("28: THE WARMTH of 2", x.about(2), 3);
        x.piece(0, 0, 0, 0, 0, 0);
        x.back(2);
        is("28: once more as it was", x.about(0), 5);
        x.back(0);
        is("28: back(0), as new", x.about(0), 0);
    }

    private static void backAndSteps() {
        Bench x = plain();
        x.seed(0, 5, 5);
        x.come(1, 6, 5);
        x.keep(0);
        x.back(0);
        is("28: STEPS", x.about(3), 0);
        is("28: to be UNDONE", x.about(4), 0);
        is("28: undo(1)", x.undo(1), NONE);
        is("28: told", x.of(6, 5, 3), NONE);
        x.come(1, 7, 5);
        is("28: from then on", x.about(3), 1);
        is("28: its STEP", x.of(7, 5, 3), 0);
        is("28: undo(2)", x.undo(2), NONE);
        is("28: undo(1)", x.undo(1), 1);
        is("23: behind back()", x.orderly(), NONE);
        is("28: glue()", x.glue(1, 1), false);
        is("7: clear()", x.clear(), 2);
        x.seed(0, 5, 5);
        x.keep(0);
        x.back(0);
        is("8: SEEDS alone behind back()", x.seed(0, 7, 7), true);
        is("9: CHOICES behind back()", x.choices(), 8);
    }

    /** Each number is of another KIND in the IMAGE than it is when back() is called. */
    private static void backToOtherKinds() {
        Bench x = plain();
        x.piece(4, 1, 1, 1, 1, 1);
        x.piece(2, 1, 1, 1, 1, 65);
        x.piece(5, 1, 1, 1, 1, 16 * 7);
        x.piece(3, 1, 1, 1, 1, 0);
        x.seed(0, 8, 8);
        x.come(2, 8, 7);
        x.keep(1);
        x.undo(1);
        x.come(5, 8, 7);
        x.keep(2);
        int wide = x.choices();
        x.clear();
        x.back(0);
        x.glue(1, 1);
        x.glue(2, 1);
        x.warmth(1);
        x.piece(0, 2, 2, 2, 2, 0);
        x.piece(1, 2, 2, 2, 2, 0);
        x.piece(2, 2, 2, 2, 2, 0);
        x.piece(0, 2, 2, 2, 2, 0);
        x.piece(4, 2, 2, 2, 2, 15);
        x.piece(1, 2, 2, 2, 2, 0);
        x.seed(1, 8, 8);
        is("28: CHOICES before", x.choices(), 12);
        x.back(1);
        is("28: the STOP bars above", x.may(1, 8, 6), false);
        is("28: and nowhere else", x.may(1, 7, 7) && x.may(1, 9, 7), true);
        is("28: a STOP bars its own side", x.may(2, 8, 9), false);
        is("28: a STOP comes elsewhere", x.may(2, 7, 8), true);
        is("28: a BLOCK", x.may(3, 7, 9) && x.may(3, 8, 9) && x.may(3, 9, 8) && x.may(3, 6, 8), true);
        is("28: a BLOCK is barred, too", x.may(3, 8, 6) || x.may(3, 7, 6), false);
        is("28: KIND", x.of(8, 7, 0), 4);
        is("28: MARK", x.come(4, 7, 8) ? x.of(7, 8, 1) : NONE, 7);
        is("28: one MARKED bars nothing", x.may(1, 7, 9), true);
        x.back(2);
        is("28: CHOICES of the other", x.choices(), wide);
        is("28: a WEAK one goes", x.go(8, 7), true);
        is("28: SEEDS alone then", x.seed(0, 1, 1), true);
        x.clear();
        x.back(0);
        x.glue(1, 2);
        x.piece(1, 0, 1, 0, 0, 0);
        x.piece(0, 0, 0, 0, 1, 0);
        x.piece(0, 0, 0, 0, 1, 0);
        x.keep(0);
        x.back(1);
        x.back(0);
        x.seed(0, 5, 5);
        x.come(1, 6, 5);
        is("28: a rival as before", x.orderly(), -3 - 4 * (6 + 16 * 5));
        Bench y = new Bench();
        y.glue(1, 2);
        y.piece(1, 0, 1, 0, 0, 0);
        y.piece(0, 0, 0, 0, 1, 0);
        y.keep(0);
        y.piece(4, 0, 0, 0, 1, 0);
        y.keep(1);
        y.back(0);
        y.piece(0, 0, 0, 0, 1, 0);
        y.back(1);
        y.seed(0, 5, 5);
        y.come(1, 6, 5);
        is("28: a STOP is no rival, though its number was", y.orderly(), 1);
    }

    private static void about() {
        Bench x = plain();
        x.piece(2, 1, 1, 1, 1, 0);
        x.seed(0, 5, 5);
        x.come(2, 6, 5);
        x.come(1, 5, 4);
        x.undo(1);
        x.feed(1, 2, 3, 4, 5);
        int[] want = {NONE, 3, 2, 1, 2, 2, 20, NONE};
        for (int what = -1; what <= 6; what++) {
            is("29: about(" + what + ")", x.about(what), want[what + 1]);
        }
        is("29: about(low)", x.about(LOW), NONE);
        is("29: about(high)", x.about(HIGH), NONE);
    }
}
