import java.util.Arrays;

/**
 * A bench on which small squares come of themselves to a growing shape. The document (DOC.md) tells what each call
 * answers; the words in capitals here are its words.
 *
 * <p>THE SHEET is held with a rim of one PLACE all around, which never holds anything, so that every PLACE on it has
 * four neighbours in the row of cells. A cell holds a code: 0 for nothing, 1 + the PIECE's number for its own PLACE, and
 * 64 more for the right half of a BLOCK. A half is looked at like a small PIECE of its own, without a GLUE towards the
 * other half.
 */
public final class GrowingTiles {
    public static final int NONE = -1;

    private static final int SIDE = 16;
    private static final int WIDTH = SIDE + 2;
    private static final int CELLS = WIDTH * WIDTH;

    private static final int MOST_PIECES = 40;
    private static final int GLUE_ROOM = 51;
    private static final int HALF = 64;
    private static final int CODES = 2 * HALF;

    private static final int PLAIN = 0;
    private static final int SEED = 1;
    private static final int BLOCK = 2;
    private static final int WEAK = 3;
    private static final int STOP = 4;
    private static final int MARKED = 5;
    private static final int RIGHT_HALF = 7;

    private static final int PUT = 0;
    private static final int CAME = 1;
    private static final int FORCED = 2;
    private static final int WENT = 3;

    private static final int IMAGES = 3;
    private static final int MOST_GROWN = 250;
    private static final int SPENT = -2;

    /** From a cell to the ones above, right, below and left of it; the opposite of direction d is d ^ 2. */
    private static final int[] STEP_TO = {-WIDTH, 1, WIDTH, -1};

    /** Where something may have begun or ceased to fit when a cell changes: a BLOCK reaches one cell further right. */
    private static final int[] TOUCHED = {-WIDTH - 1, -WIDTH, -2, -1, 0, 1, WIDTH - 1, WIDTH};

    private final Kit kit;
    private final Sheet sheet;
    private final Steps steps;
    private final Tape tape;
    private final Search search;
    private final Order order;
    private final Image[] images;
    private long s;

    public GrowingTiles() {
        kit = new Kit();
        sheet = new Sheet(kit);
        steps = new Steps();
        tape = new Tape();
        search = new Search(sheet);
        order = new Order(kit, sheet, steps);
        images = new Image[IMAGES];
        for (int k = 0; k < IMAGES; k++) {
            images[k] = new Image();
        }
        s = 0;
    }

    public boolean glue(int glue, int strength) {
        if (glue < 1 || glue >= GLUE_ROOM || strength < 0 || strength > 3 || sheet.pieces != 0) {
            return false;
        }
        kit.strengths[glue] = strength;
        return true;
    }

    public int piece(int kind, int above, int right, int below, int left, int more) {
        int number = kit.addPiece(kind, above, right, below, left, more);
        if (number != NONE) {
            sheet.touchAll();
        }
        return number;
    }

    public int feed(int a, int b, int c, int d, int e) {
        if (!tape.hasRoomForFive()) {
            return NONE;
        }
        tape.append(a);
        tape.append(b);
        tape.append(c);
        tape.append(d);
        tape.append(e);
        return tape.length;
    }

    public int set(int n) {
        if (n < 0 || n > tape.length) {
            return NONE;
        }
        int came = 0;
        for (int start = 0; start + Tape.RECORD <= n; start += Tape.RECORD) {
            if (!tape.addTo(kit, start)) {
                break;
            }
            came++;
        }
        tape.length = 0;
        if (came > 0) {
            sheet.touchAll();
        }
        return came;
    }

    public boolean warmth(int warmth) {
        if (warmth < 1 || warmth > 3 || sheet.pieces != 0) {
            return false;
        }
        kit.warm = warmth;
        return true;
    }

    public int clear() {
        int gone = sheet.pieces;
        sheet.sweep();
        steps.restart(true);
        return gone;
    }

    public boolean seed(int piece, int x, int y) {
        int place = placeOf(x, y);
        if (place == NONE || !kit.isOfKind(piece, SEED) || !sheet.isFree(place) || sheet.grown != 0) {
            return false;
        }
        stepDown(PUT, piece, place);
        return true;
    }

    public boolean may(int piece, int x, int y) {
        int place = placeOf(x, y);
        return place != NONE && kit.has(piece) && sheet.fitsAt(place, piece);
    }

    public int hold(int piece, int x, int y) {
        int place = placeOf(x, y);
        if (place == NONE || !kit.has(piece) || !sheet.hasRoomFor(piece, place)) {
            return NONE;
        }
        return sheet.holdOf(piece, place);
    }

    public boolean come(int piece, int x, int y) {
        int place = placeOf(x, y);
        if (place == NONE || !kit.has(piece) || !sheet.fitsAt(place, piece)) {
            return false;
        }
        stepDown(CAME, piece, place);
        return true;
    }

    public boolean go(int x, int y) {
        int place = placeOf(x, y);
        if (place == NONE || sheet.isFree(place) || !sheet.mayLeave(place)) {
            return false;
        }
        int piece = pieceIn(sheet.cells[place]);
        sheet.lift(place);
        steps.note(WENT, piece, place);
        return true;
    }

    public boolean force(int piece, int x, int y) {
        int place = placeOf(x, y);
        if (place == NONE || !kit.has(piece) || kit.kinds[piece] == SEED || !sheet.hasRoomFor(piece, place)) {
            return false;
        }
        stepDown(FORCED, piece, place);
        return true;
    }

    public int choices() {
        return sheet.countFits();
    }

    public int choice(int k, int what) {
        if (what < 0 || what > 2 || k < 0 || k >= sheet.countFits()) {
            return NONE;
        }
        int found = sheet.findFit(k);
        if (found == NONE) {
            return NONE;
        }
        int place = found / HALF;
        switch (what) {
            case 0:
                return found % HALF;
            case 1:
                return columnOf(place);
            default:
                return lineOf(place);
        }
    }

    public void draw(long s) {
        this.s = s;
    }

    public int grow(int n) {
        if (n < 0 || n > MOST_GROWN) {
            return NONE;
        }
        int came = 0;
        for (int i = 0; i < n; i++) {
            int many = sheet.countFits();
            if (many <= 0) {
                break;
            }
            int found = sheet.findFit(drawOf(many));
            if (found == NONE) {
                break;
            }
            stepDown(CAME, found % HALF, found / HALF);
            came++;
        }
        return came;
    }

    public int at(int x, int y) {
        int place = placeOf(x, y);
        return place == NONE ? NONE : pieceIn(sheet.cells[place]);
    }

    public int of(int x, int y, int what) {
        int place = placeOf(x, y);
        if (place == NONE || sheet.isFree(place)) {
            return NONE;
        }
        int code = sheet.cells[place];
        int piece = pieceIn(code);
        int own = ownPlace(code, place);
        switch (what) {
            case 0:
                return own == place ? kit.kinds[piece] : RIGHT_HALF;
            case 1:
                return kit.marks[piece];
            case 2:
                return sheet.holdOf(piece, own);
            case 3:
                return steps.since[own];
            default:
                return NONE;
        }
    }

    public int walk(int most) {
        return search.isRefused(most) ? NONE : search.run(most);
    }

    public int ways(int what) {
        if (search.told == 0) {
            return NONE;
        }
        switch (what) {
            case 0:
                return search.found;
            case 1:
                return search.ended;
            case 2:
                return search.cut;
            case 3:
                return search.largest;
            default:
                return NONE;
        }
    }

    public int way(int k, int x, int y) {
        int place = placeOf(x, y);
        if (place == NONE || k < 0 || k >= search.found) {
            return NONE;
        }
        return search.heldIn(k, place);
    }

    public int orderly() {
        return order.judge();
    }

    public int rule(int f, int g, int c, int r, int row, int column) {
        if (f < 0 || f > 15 || g < 0 || g > 15 || c < 1 || c > 15 || r < 1 || r > 15) {
            return NONE;
        }
        sheet.sweep();
        steps.restart(true);
        kit.becomeRule(f, g);
        for (int x = 0; x < c; x++) {
            stepDown(PUT, 4 + bitOf(row, c - 1 - x), placeOf(x, 15));
        }
        for (int j = 0; j < r; j++) {
            stepDown(PUT, 6 + bitOf(column, j), placeOf(c, 14 - j));
        }
        return c + r;
    }

    public int row(int y, int c) {
        if (y < 0 || y >= SIDE || c < 1 || c > SIDE) {
            return NONE;
        }
        int bits = 0;
        for (int x = 0; x < c; x++) {
            int piece = pieceIn(sheet.cells[placeOf(x, y)]);
            int mark = piece == NONE ? 0 : kit.marks[piece];
            if (mark != 1 && mark != 2) {
                return NONE;
            }
            bits = 2 * bits + mark - 1;
        }
        return bits;
    }

    public int undo(int n) {
        if (n < 0 || n > steps.kept) {
            return NONE;
        }
        for (int i = 0; i < n; i++) {
            takeBackLatest();
        }
        return n;
    }

    public boolean keep(int k) {
        if (k < 0 || k >= IMAGES) {
            return false;
        }
        images[k].take(kit, sheet, s);
        return true;
    }

    public boolean back(int k) {
        if (k < 0 || k >= IMAGES) {
            return false;
        }
        Image image = images[k];
        kit.copyFrom(image.kit);
        sheet.layOut(image.cells);
        s = image.s;
        steps.restart(sheet.pieces == 0);
        return true;
    }

    public int about(int what) {
        switch (what) {
            case 0:
                return kit.count;
            case 1:
                return sheet.pieces;
            case 2:
                return kit.warm;
            case 3:
                return steps.made;
            case 4:
                return steps.kept;
            case 5:
                return tape.length;
            default:
                return NONE;
        }
    }

    private void stepDown(int act, int piece, int place) {
        sheet.putDown(piece, place);
        steps.note(act, piece, place);
    }

    private void takeBackLatest() {
        int i = steps.dropLatest();
        int place = steps.places[i];
        if (steps.acts[i] == WENT) {
            sheet.putDown(steps.pieces[i], place);
            steps.since[place] = steps.before[i];
        } else {
            sheet.lift(place);
        }
    }

    private int drawOf(int many) {
        s = s * 6364136223846793005L + 1442695040888963407L;
        return many <= 0 ? 0 : (int) ((s >>> 33) % many);
    }

    private static int bitOf(int bits, int i) {
        return (bits >>> i) & 1;
    }

    /** The cell of a PLACE; NONE if it is not on THE SHEET. */
    private static int placeOf(int x, int y) {
        return x < 0 || x >= SIDE || y < 0 || y >= SIDE ? NONE : (y + 1) * WIDTH + x + 1;
    }

    private static int columnOf(int place) {
        return place % WIDTH - 1;
    }

    private static int lineOf(int place) {
        return place / WIDTH - 1;
    }

    /** Whether a cell is none of the rim's. */
    private static boolean isOnSheet(int cell) {
        int column = cell % WIDTH;
        return cell >= WIDTH && cell < CELLS - WIDTH && column >= 1 && column <= SIDE;
    }

    private static int pieceIn(int code) {
        return code == 0 ? NONE : (code - 1) % HALF;
    }

    /** The PLACE by which a PIECE is known, of which a part with this code is here. */
    private static int ownPlace(int code, int place) {
        return code > HALF ? place - 1 : place;
    }

    /**
     * GLUES, PIECES and THE WARMTH. A set of PIECES is a long with a bit for each, so that all PIECES can be asked at
     * once what they show to a neighbour.
     */
    private static final class Kit {
        int warm;
        int count;
        final int[] strengths;
        final int[] kinds;
        final int[] marks;
        /** The GLUE that a code shows to a direction: at 4 * code + direction. */
        final int[] faces;
        /** A code's barred sides, as the document sums them up. */
        final int[] bars;
        /** The PIECES that show a GLUE to a direction from their own PLACE: at GLUE_ROOM * direction + GLUE. */
        final long[] showing;
        /** The BLOCKS that show a GLUE to a direction from their other PLACE. */
        final long[] showingRight;
        /** The PIECES that bar their own side in a direction. */
        final long[] barring;
        long seeds;
        long blocks;
        /** The PIECES that (b) of ORDERLY asks of. */
        long rivals;

        Kit() {
            warm = 2;
            count = 0;
            strengths = new int[GLUE_ROOM];
            kinds = new int[MOST_PIECES];
            marks = new int[MOST_PIECES];
            faces = new int[4 * CODES];
            bars = new int[CODES];
            showing = new long[4 * GLUE_ROOM];
            showingRight = new long[4 * GLUE_ROOM];
            barring = new long[4];
            seeds = 0;
            blocks = 0;
            rivals = 0;
        }

        boolean has(int piece) {
            return piece >= 0 && piece < count;
        }

        boolean isOfKind(int piece, int kind) {
            return has(piece) && kinds[piece] == kind;
        }

        int addPiece(int kind, int above, int right, int below, int left, int more) {
            if (count >= MOST_PIECES || !isMoreOf(kind, more) || !isFace(above) || !isFace(right)
                    || !isFace(below) || !isFace(left)) {
                return NONE;
            }
            int piece = count;
            count++;
            kinds[piece] = kind;
            marks[piece] = kind == MARKED ? more / 16 : 0;
            enrol(piece, kind);
            barSides(piece, kind == STOP || kind == MARKED ? more % 16 : 0);
            boolean wide = kind == BLOCK;
            show(showing, piece, 1 + piece, 0, above);
            show(showing, piece, 1 + piece, 1, wide ? 0 : right);
            show(showing, piece, 1 + piece, 2, below);
            show(showing, piece, 1 + piece, 3, left);
            show(showingRight, piece, 1 + piece + HALF, 0, wide ? more % 64 : 0);
            show(showingRight, piece, 1 + piece + HALF, 1, wide ? right : 0);
            show(showingRight, piece, 1 + piece + HALF, 2, wide ? more / 64 : 0);
            return piece;
        }

        private static boolean isFace(int glue) {
            return glue >= 0 && glue < GLUE_ROOM;
        }

        private static boolean isMoreOf(int kind, int more) {
            switch (kind) {
                case PLAIN:
                case SEED:
                case WEAK:
                    return more == 0;
                case BLOCK:
                    return more >= 0 && isFace(more % 64) && isFace(more / 64);
                case STOP:
                    return more >= 0 && more <= 15;
                case MARKED:
                    return more >= 16 && more <= 255;
                default:
                    return false;
            }
        }

        private void enrol(int piece, int kind) {
            long bit = 1L << piece;
            if (kind == SEED) {
                seeds |= bit;
            } else if (kind == BLOCK) {
                blocks |= bit;
            } else if (kind != STOP) {
                rivals |= bit;
            }
        }

        private void barSides(int piece, int sides) {
            bars[1 + piece] = sides;
            for (int d = 0; d < 4; d++) {
                if (bitOf(sides, d) == 1) {
                    barring[d] |= 1L << piece;
                }
            }
        }

        private void show(long[] shown, int piece, int code, int d, int glue) {
            faces[4 * code + d] = glue;
            if (glue != 0) {
                shown[GLUE_ROOM * d + glue] |= 1L << piece;
            }
        }

        void copyFrom(Kit other) {
            warm = other.warm;
            count = other.count;
            System.arraycopy(other.strengths, 0, strengths, 0, GLUE_ROOM);
            System.arraycopy(other.kinds, 0, kinds, 0, MOST_PIECES);
            System.arraycopy(other.marks, 0, marks, 0, MOST_PIECES);
            System.arraycopy(other.faces, 0, faces, 0, 4 * CODES);
            System.arraycopy(other.bars, 0, bars, 0, CODES);
            System.arraycopy(other.showing, 0, showing, 0, 4 * GLUE_ROOM);
            System.arraycopy(other.showingRight, 0, showingRight, 0, 4 * GLUE_ROOM);
            System.arraycopy(other.barring, 0, barring, 0, 4);
            seeds = other.seeds;
            blocks = other.blocks;
            rivals = other.rivals;
        }

        private void empty() {
            warm = 2;
            count = 0;
            Arrays.fill(strengths, 0);
            Arrays.fill(faces, 0);
            Arrays.fill(bars, 0);
            Arrays.fill(showing, 0L);
            Arrays.fill(showingRight, 0L);
            Arrays.fill(barring, 0L);
            seeds = 0;
            blocks = 0;
            rivals = 0;
        }

        void becomeRule(int f, int g) {
            empty();
            for (int glue = 1; glue <= 4; glue++) {
                strengths[glue] = 1;
            }
            for (int i = 0; i < 4; i++) {
                int up = bitOf(f, i);
                addPiece(MARKED, 1 + up, 3 + i % 2, 1 + i / 2, 3 + bitOf(g, i), 16 * (1 + up));
            }
            addPiece(SEED, 1, 0, 0, 0, 0);
            addPiece(SEED, 2, 0, 0, 0, 0);
            addPiece(SEED, 0, 0, 0, 3, 0);
            addPiece(SEED, 0, 0, 0, 4, 0);
        }
    }

    /** What the PLACES hold, and, renewed only where something near has changed, what may come to them. */
    private static final class Sheet {
        final Kit kit;
        final int[] cells;
        /** How many PIECES are there, and how many of them are no SEEDS. */
        int pieces;
        int grown;
        /** The PIECES that MAY COME to each PLACE, and how many a line has: as things are behind countFits(). */
        final long[] fits;
        final int[] fitsInLine;
        private int fitsInAll;
        private final boolean[] stale;
        private final int[] staleCells;
        private int staleCount;
        /** The PIECES whose HOLD, as it is being summed up, is at least 1, 2 and 3. */
        private long atLeast1;
        private long atLeast2;
        private long atLeast3;
        private final int[] seen;
        private final int[] queue;

        Sheet(Kit kit) {
            this.kit = kit;
            cells = new int[CELLS];
            pieces = 0;
            grown = 0;
            fits = new long[CELLS];
            fitsInLine = new int[SIDE];
            fitsInAll = 0;
            stale = new boolean[CELLS];
            staleCells = new int[SIDE * SIDE];
            staleCount = 0;
            seen = new int[CELLS];
            queue = new int[SIDE * SIDE];
        }

        boolean isFree(int place) {
            return cells[place] == 0;
        }

        boolean hasRoomFor(int piece, int place) {
            return cells[place] == 0 && (kit.kinds[piece] != BLOCK || isRightFree(place));
        }

        private boolean isRightFree(int place) {
            return columnOf(place) < SIDE - 1 && cells[place + 1] == 0;
        }

        void putDown(int piece, int place) {
            cells[place] = 1 + piece;
            touch(place);
            if (kit.kinds[piece] == BLOCK) {
                cells[place + 1] = 1 + piece + HALF;
                touch(place + 1);
            }
            pieces++;
            grown += kit.kinds[piece] == SEED ? 0 : 1;
        }

        /** Takes away the PIECE whose own PLACE this is. */
        void lift(int place) {
            int piece = pieceIn(cells[place]);
            if (piece == NONE) {
                return;
            }
            cells[place] = 0;
            touch(place);
            if (kit.kinds[piece] == BLOCK) {
                cells[place + 1] = 0;
                touch(place + 1);
            }
            pieces--;
            grown -= kit.kinds[piece] == SEED ? 0 : 1;
        }

        void sweep() {
            Arrays.fill(cells, 0);
            pieces = 0;
            grown = 0;
            touchAll();
        }

        void layOut(int[] image) {
            System.arraycopy(image, 0, cells, 0, CELLS);
            pieces = 0;
            grown = 0;
            for (int place = 0; place < CELLS; place++) {
                int code = cells[place];
                if (code != 0 && code <= HALF) {
                    pieces++;
                    grown += kit.kinds[code - 1] == SEED ? 0 : 1;
                }
            }
            touchAll();
        }

        void touchAll() {
            for (int cell = 0; cell < CELLS; cell++) {
                markStale(cell);
            }
        }

        private void touch(int place) {
            for (int i = 0; i < TOUCHED.length; i++) {
                markStale(place + TOUCHED[i]);
            }
        }

        private void markStale(int cell) {
            if (isOnSheet(cell) && !stale[cell]) {
                stale[cell] = true;
                staleCells[staleCount] = cell;
                staleCount++;
            }
        }

        private void renewStale() {
            for (int i = 0; i < staleCount; i++) {
                int cell = staleCells[i];
                long now = fitsNow(cell);
                int change = Long.bitCount(now) - Long.bitCount(fits[cell]);
                fits[cell] = now;
                fitsInLine[lineOf(cell)] += change;
                fitsInAll += change;
                stale[cell] = false;
            }
            staleCount = 0;
        }

        int countFits() {
            renewStale();
            return fitsInAll;
        }

        boolean fitsAt(int place, int piece) {
            renewStale();
            return (fits[place] >>> piece & 1L) == 1L;
        }

        /** CHOICE k as HALF * its cell + its PIECE; NONE if there are not so many. */
        int findFit(int k) {
            renewStale();
            int left = k;
            for (int line = 0; line < SIDE; line++) {
                if (left < fitsInLine[line]) {
                    return findInLine(line, left);
                }
                left -= fitsInLine[line];
            }
            return NONE;
        }

        private int findInLine(int line, int k) {
            int left = k;
            for (int x = 0; x < SIDE; x++) {
                int cell = placeOf(x, line);
                int here = Long.bitCount(fits[cell]);
                if (left < here) {
                    return HALF * cell + lowestBitAfter(fits[cell], left);
                }
                left -= here;
            }
            return NONE;
        }

        private static int lowestBitAfter(long bits, int passed) {
            long rest = bits;
            for (int i = 0; i < passed; i++) {
                rest &= rest - 1;
            }
            return Long.numberOfTrailingZeros(rest);
        }

        private long fitsNow(int place) {
            if (cells[place] != 0) {
                return 0L;
            }
            boolean wide = isRightFree(place);
            startSums();
            sumUp(kit.showing, place, 0);
            if (wide) {
                sumUp(kit.showingRight, place + 1, 0);
            }
            long held = heldEnough();
            if (held == 0L) {
                return 0L;
            }
            long barred = barredAt(place) | kit.seeds;
            if (!wide || isBarredFromBeside(place + 1)) {
                barred |= kit.blocks;
            }
            return held & ~barred;
        }

        private void startSums() {
            atLeast1 = 0L;
            atLeast2 = 0L;
            atLeast3 = 0L;
        }

        /** Adds what the neighbours of a cell, but those in directions to be passed over, hold of the PIECES. */
        private void sumUp(long[] shown, int cell, int passedOver) {
            for (int d = 0; d < 4; d++) {
                int code = cells[cell + STEP_TO[d]];
                if (code == 0 || bitOf(passedOver, d) == 1) {
                    continue;
                }
                int glue = kit.faces[4 * code + (d ^ 2)];
                long same = shown[GLUE_ROOM * d + glue];
                for (int i = 0; i < kit.strengths[glue]; i++) {
                    atLeast3 |= atLeast2 & same;
                    atLeast2 |= atLeast1 & same;
                    atLeast1 |= same;
                }
            }
        }

        private long heldEnough() {
            if (kit.warm == 1) {
                return atLeast1;
            }
            return kit.warm == 2 ? atLeast2 : atLeast3;
        }

        /** The PIECES with a HOLD of THE WARMTH or more at a PLACE, if what lies in some directions is passed over. */
        long heldAt(int place, int passedOver) {
            startSums();
            sumUp(kit.showing, place, passedOver);
            return heldEnough();
        }

        private long barredAt(int place) {
            if (isBarredFromBeside(place)) {
                return -1L;
            }
            long barred = 0L;
            for (int d = 0; d < 4; d++) {
                if (cells[place + STEP_TO[d]] != 0) {
                    barred |= kit.barring[d];
                }
            }
            return barred;
        }

        private boolean isBarredFromBeside(int place) {
            for (int d = 0; d < 4; d++) {
                int code = cells[place + STEP_TO[d]];
                if ((kit.bars[code] >>> (d ^ 2) & 1) == 1) {
                    return true;
                }
            }
            return false;
        }

        /** THE HOLD of a PIECE whose own PLACE is this, there or as if it were. */
        int holdOf(int piece, int place) {
            int sum = holdOfCode(1 + piece, place, 0);
            if (kit.kinds[piece] == BLOCK) {
                sum += holdOfCode(1 + piece + HALF, place + 1, 0);
            }
            return sum;
        }

        int holdOfCode(int code, int cell, int passedOver) {
            int sum = 0;
            for (int d = 0; d < 4; d++) {
                if (bitOf(passedOver, d) == 0) {
                    sum += strengthAt(code, cell, d);
                }
            }
            return sum;
        }

        /** The STRENGTH with which what is beside a cell holds a code that is in it, or as if it were. */
        int strengthAt(int code, int cell, int d) {
            int glue = kit.faces[4 * code + d];
            int other = cells[cell + STEP_TO[d]];
            return kit.faces[4 * other + (d ^ 2)] == glue ? kit.strengths[glue] : 0;
        }

        boolean mayLeave(int place) {
            int piece = pieceIn(cells[place]);
            return kit.isOfKind(piece, WEAK) && holdOf(piece, place) == kit.warm && hangsTogetherWithout(place);
        }

        private boolean hangsTogetherWithout(int gone) {
            Arrays.fill(seen, 0);
            int left = 0;
            int start = NONE;
            for (int cell = 0; cell < CELLS; cell++) {
                if (cells[cell] != 0 && cell != gone) {
                    left++;
                    start = cell;
                }
            }
            return start == NONE || countLedTo(start, gone) == left;
        }

        private int countLedTo(int start, int gone) {
            seen[gone] = 1;
            seen[start] = 1;
            queue[0] = start;
            int count = 1;
            for (int i = 0; i < count && i < SIDE * SIDE; i++) {
                int cell = queue[i];
                for (int d = 0; d < 4; d++) {
                    int next = cell + STEP_TO[d];
                    if (seen[next] == 0 && leadsOn(cell, d)) {
                        seen[next] = 1;
                        queue[count] = next;
                        count++;
                    }
                }
            }
            return count;
        }

        private boolean leadsOn(int cell, int d) {
            int code = cells[cell];
            int next = cells[cell + STEP_TO[d]];
            boolean otherHalf = d == 1 && next == code + HALF || d == 3 && code == next + HALF;
            return next != 0 && (otherHalf || strengthAt(code, cell, d) > 0);
        }
    }

    /** The latest STEPS, as far as they can be UNDONE, and the STEP with which each PIECE came to be there. */
    private static final class Steps {
        static final int ROOM = 200;
        int made;
        int kept;
        /** Whether THE SHEET was clear when the STEPS began. */
        boolean fromClear;
        final int[] acts;
        final int[] pieces;
        final int[] places;
        /** For one that went: the STEP with which it had come. */
        final int[] before;
        final int[] since;

        Steps() {
            made = 0;
            kept = 0;
            fromClear = true;
            acts = new int[ROOM];
            pieces = new int[ROOM];
            places = new int[ROOM];
            before = new int[ROOM];
            since = new int[CELLS];
        }

        void restart(boolean clear) {
            made = 0;
            kept = 0;
            fromClear = clear;
            Arrays.fill(since, NONE);
        }

        void note(int act, int piece, int place) {
            int i = made % ROOM;
            acts[i] = act;
            pieces[i] = piece;
            places[i] = place;
            before[i] = since[place];
            since[place] = made;
            made++;
            kept = Math.min(kept + 1, ROOM);
        }

        /** Where the latest STEP, which counts no longer, is written. */
        int dropLatest() {
            if (kept > 0) {
                kept--;
                made--;
            }
            return made % ROOM;
        }

        boolean areAllKept() {
            return made == kept;
        }
    }

    /** The TAPE of bytes that PIECES are read off. */
    private static final class Tape {
        static final int ROOM = 400;
        static final int RECORD = 8;
        int length;
        private final int[] bytes;

        Tape() {
            length = 0;
            bytes = new int[ROOM];
        }

        boolean hasRoomForFive() {
            return length + 20 <= ROOM;
        }

        void append(int four) {
            for (int shift = 24; shift >= 0; shift -= 8) {
                bytes[length] = (four >>> shift) & 255;
                length++;
            }
        }

        boolean addTo(Kit kit, int start) {
            int more = 256 * bytes[start + 6] + bytes[start + 7];
            return kit.addPiece(bytes[start], bytes[start + 1], bytes[start + 2], bytes[start + 3],
                    bytes[start + 4], more) != NONE;
        }
    }

    /** What keep() puts by. */
    private static final class Image {
        final Kit kit;
        final int[] cells;
        long s;

        Image() {
            kit = new Kit();
            cells = new int[CELLS];
            s = 0;
        }

        void take(Kit kit, Sheet sheet, long s) {
            this.kit.copyFrom(kit);
            System.arraycopy(sheet.cells, 0, cells, 0, CELLS);
            this.s = s;
        }
    }

    /**
     * ALL WAYS. A SHAPE is held as the one it was first found from and what came to that; the sheet itself is brought
     * from one SHAPE to the next, and at last to what it was.
     */
    private static final class Search {
        static final int ROOM = 300;
        static final int MOST_TIMES = 60;
        static final int MOST_SIZE = 40;
        static final int BUCKETS = 512;
        int told;
        int found;
        int ended;
        int cut;
        int largest;
        private final Sheet sheet;
        private final int[] start;
        private final int[] parents;
        private final int[] places;
        private final int[] pieces;
        private final boolean[] wide;
        private final int[] sizes;
        /** A number of all that came to a SHAPE, whatever the order: equal ones are compared in full. */
        private final long[] sums;
        private final int[] firstInBucket;
        private final int[] nextInBucket;
        private int here;

        Search(Sheet sheet) {
            this.sheet = sheet;
            told = 0;
            found = 0;
            start = new int[CELLS];
            parents = new int[ROOM];
            places = new int[ROOM];
            pieces = new int[ROOM];
            wide = new boolean[ROOM];
            sizes = new int[ROOM];
            sums = new long[ROOM];
            firstInBucket = new int[BUCKETS];
            nextInBucket = new int[ROOM];
        }

        boolean isRefused(int most) {
            return most < 1 || most > MOST_SIZE || sheet.pieces > most || told >= MOST_TIMES;
        }

        int run(int most) {
            begin();
            boolean spent = false;
            for (int k = 0; k < ROOM && k < found && !spent; k++) {
                bringSheetTo(k);
                spent = !goThrough(k, most, sheet.countFits());
            }
            bringSheetTo(0);
            largest = sizes[found - 1];
            told++;
            return spent ? SPENT : found;
        }

        private void begin() {
            System.arraycopy(sheet.cells, 0, start, 0, CELLS);
            Arrays.fill(firstInBucket, NONE);
            found = 1;
            ended = 0;
            cut = 0;
            here = 0;
            parents[0] = 0;
            sizes[0] = sheet.pieces;
            sums[0] = 0L;
        }

        /** A SHAPE stands behind the one it was found from, so the higher number is the one to go back from. */
        private int commonStart(int k, int l) {
            int a = k;
            int b = l;
            for (int i = 0; i < 2 * ROOM && a != b; i++) {
                if (a > b) {
                    a = parents[a];
                } else {
                    b = parents[b];
                }
            }
            return a;
        }

        private void bringSheetTo(int k) {
            int common = commonStart(here, k);
            int leaving = here;
            for (int i = 0; i < ROOM && leaving != common; i++) {
                sheet.lift(places[leaving]);
                leaving = parents[leaving];
            }
            int coming = k;
            for (int i = 0; i < ROOM && coming != common; i++) {
                sheet.putDown(pieces[coming], places[coming]);
                coming = parents[coming];
            }
            here = k;
        }

        /** Whether all that come of SHAPE k, which the sheet shows with so many CHOICES, had room. */
        private boolean goThrough(int k, int most, int many) {
            if (many == 0) {
                ended++;
                return true;
            }
            if (sizes[k] >= most) {
                cut++;
                return true;
            }
            for (int line = 0; line < SIDE; line++) {
                if (sheet.fitsInLine[line] != 0 && !goThroughLine(k, line)) {
                    return false;
                }
            }
            return true;
        }

        private boolean goThroughLine(int k, int line) {
            for (int x = 0; x < SIDE; x++) {
                int place = placeOf(x, line);
                long fits = sheet.fits[place];
                for (int piece = 0; piece < MOST_PIECES && fits >>> piece != 0L; piece++) {
                    if ((fits >>> piece & 1L) == 1L && !addOnce(k, place, piece)) {
                        return false;
                    }
                }
            }
            return true;
        }

        /** Adds what comes of SHAPE k if it is new; false if there is no room for it. */
        private boolean addOnce(int k, int place, int piece) {
            long sum = sums[k] + scattered(HALF * place + piece);
            int bucket = (int) (sum >>> 40) & (BUCKETS - 1);
            if (isKnown(bucket, sum, place, piece)) {
                return true;
            }
            if (found >= ROOM) {
                return false;
            }
            int n = found;
            found++;
            parents[n] = k;
            places[n] = place;
            pieces[n] = piece;
            wide[n] = sheet.kit.kinds[piece] == BLOCK;
            sizes[n] = sizes[k] + 1;
            sums[n] = sum;
            nextInBucket[n] = firstInBucket[bucket];
            firstInBucket[bucket] = n;
            return true;
        }

        private static long scattered(int number) {
            long z = (number + 1L) * -7046029254386353131L;
            z = (z ^ (z >>> 31)) * -4658895280553007687L;
            return z ^ (z >>> 29);
        }

        private boolean isKnown(int bucket, long sum, int place, int piece) {
            int n = firstInBucket[bucket];
            for (int i = 0; i < ROOM && n != NONE; i++) {
                if (sums[n] == sum && isSame(n, place, piece)) {
                    return true;
                }
                n = nextInBucket[n];
            }
            return false;
        }

        /** Whether SHAPE n is what the sheet shows with a PIECE more. */
        private boolean isSame(int n, int place, int piece) {
            if (sizes[n] != sheet.pieces + 1) {
                return false;
            }
            int k = n;
            for (int i = 0; i < ROOM && k != 0; i++) {
                boolean isTheOneMore = places[k] == place && pieces[k] == piece;
                if (!isTheOneMore && sheet.cells[places[k]] != 1 + pieces[k]) {
                    return false;
                }
                k = parents[k];
            }
            return true;
        }

        int heldIn(int n, int place) {
            int k = n;
            for (int i = 0; i < ROOM && k != 0; i++) {
                if (places[k] == place || wide[k] && places[k] + 1 == place) {
                    return pieces[k];
                }
                k = parents[k];
            }
            return pieceIn(start[place]);
        }
    }

    /** Whether THE SHAPE is ORDERLY. A neighbour came earlier or later as its STEP says. */
    private static final class Order {
        private final Kit kit;
        private final Sheet sheet;
        private final Steps steps;

        Order(Kit kit, Sheet sheet, Steps steps) {
            this.kit = kit;
            this.sheet = sheet;
            this.steps = steps;
        }

        int judge() {
            if (!canBeAsked()) {
                return NONE;
            }
            for (int i = 0; i < steps.made; i++) {
                if (steps.acts[i] == CAME && !wasJustHeld(i)) {
                    return -2 - 4 * numberOf(steps.places[i]);
                }
            }
            for (int i = 0; i < steps.made; i++) {
                if (steps.acts[i] == CAME && hasRival(i)) {
                    return -3 - 4 * numberOf(steps.places[i]);
                }
            }
            return sheet.countFits() == 0 ? 1 : -4;
        }

        private static int numberOf(int place) {
            return columnOf(place) + SIDE * lineOf(place);
        }

        private boolean canBeAsked() {
            if (!steps.fromClear || !steps.areAllKept()) {
                return false;
            }
            for (int i = 0; i < steps.made; i++) {
                if (steps.acts[i] != PUT && steps.acts[i] != CAME || !isOfOrderlyKind(steps.pieces[i])) {
                    return false;
                }
            }
            return true;
        }

        private boolean isOfOrderlyKind(int piece) {
            int kind = kit.kinds[piece];
            return kind == PLAIN || kind == SEED || kind == MARKED && kit.bars[1 + piece] == 0;
        }

        /** The directions from a PLACE in which something lies that came later. */
        private int laterAround(int place) {
            int later = 0;
            for (int d = 0; d < 4; d++) {
                int beside = place + STEP_TO[d];
                if (!sheet.isFree(beside) && steps.since[beside] > steps.since[place]) {
                    later |= 1 << d;
                }
            }
            return later;
        }

        private boolean wasJustHeld(int i) {
            int place = steps.places[i];
            return sheet.holdOfCode(1 + steps.pieces[i], place, laterAround(place)) == kit.warm;
        }

        private boolean hasRival(int i) {
            int place = steps.places[i];
            int piece = steps.pieces[i];
            long others = kit.rivals & ~(1L << piece);
            return (sheet.heldAt(place, outputsOf(1 + piece, place)) & others) != 0L;
        }

        private int outputsOf(int code, int place) {
            int later = laterAround(place);
            int outputs = 0;
            for (int d = 0; d < 4; d++) {
                if (bitOf(later, d) == 1 && sheet.strengthAt(code, place, d) > 0) {
                    outputs |= 1 << d;
                }
            }
            return outputs;
        }
    }
}
