/** Objects that the tests of edges begin with, each made by few calls, and always in the same way. */
final class Benches {
    static final int[] DX = {0, 1, 0, -1};
    static final int[] DY = {-1, 0, 1, 0};

    private Benches() {
    }

    /** GLUE 1 with STRENGTH 1, THE WARMTH 1, SEED 0 and PIECE 1 with GLUE 1 all around. */
    static Bench plain() {
        Bench x = new Bench();
        x.glue(1, 1);
        x.warmth(1);
        x.piece(1, 1, 1, 1, 1, 0);
        x.piece(0, 1, 1, 1, 1, 0);
        return x;
    }

    /**
     * One of each KIND with GLUE 1 all around (4, STOP, and 5, MARKED, without a barred side), and 6, a STOP that bars all
     * its sides; the TAPE, s, an IMAGE and a walk() that are not as new; THE SHEET clear.
     */
    static Bench clear() {
        Bench x = plain();
        x.glue(2, 2);
        x.glue(50, 3);
        x.piece(2, 1, 1, 1, 1, 65);
        x.piece(3, 1, 1, 1, 1, 0);
        x.piece(4, 1, 1, 1, 1, 0);
        x.piece(5, 1, 1, 1, 1, 16 * 15);
        x.piece(4, 1, 2, 1, 50, 15);
        x.feed(0x05010101, 0x01000070, 0x01020201, 0x02000000, 0);
        x.feed(0, 0, 0x04020000, 0x01000009, 0);
        x.seed(0, 3, 3);
        x.come(2, 4, 3);
        x.walk(3);
        x.keep(1);
        x.draw(77);
        x.clear();
        x.keep(2);
        return x;
    }

    /** As clear(), but five are on THE SHEET by seven STEPS: a SEED, a PIECE, a BLOCK, a WEAK one and one FORCED. */
    static Bench grown() {
        Bench x = clear();
        x.seed(0, 5, 5);
        x.come(1, 6, 5);
        x.come(2, 5, 4);
        x.come(3, 5, 6);
        x.come(3, 4, 5);
        x.go(5, 6);
        x.force(6, 12, 12);
        return x;
    }

    /** As clear(), but with SEEDS alone on THE SHEET. */
    static Bench seeded() {
        Bench x = clear();
        x.seed(0, 5, 5);
        x.seed(0, 9, 9);
        return x;
    }

    /** As plain(), but THE SHEET is full: 256 STEPS, a SEED first. */
    static Bench full() {
        Bench x = plain();
        x.seed(0, 8, 8);
        x.draw(5);
        x.grow(250);
        x.grow(250);
        return x;
    }

    /** A RULE of 4 columns and 3 rows of which 5 have come. */
    static Bench ruled() {
        Bench x = new Bench();
        x.rule(6, 8, 4, 3, 5, 7);
        x.grow(5);
        return x;
    }
}
