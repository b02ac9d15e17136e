import java.util.ArrayList;
import java.util.HashSet;
import java.util.List;
import java.util.Set;

/**
 * The document put into the plainest Java, slow and without a shortcut, for the tests to compare the class with. It
 * shares no code and no way of holding things with the class.
 */
final class PlainModel {
    static final int NONE = -1;
    private static final int[] DX = {0, 1, 0, -1};
    private static final int[] DY = {-1, 0, 1, 0};

    private record Piece(int number, int kind, int above, int right, int below, int left, int more) {
        boolean isBlock() {
            return kind == 2;
        }

        int mark() {
            return kind == 5 ? more / 16 : 0;
        }

        boolean bars(int d) {
            return (kind == 4 || kind == 5) && (more % 16 >> d) % 2 == 1;
        }
    }

    /** A PIECE that lies on THE SHEET, by its own PLACE. */
    private record Lying(Piece piece, int x, int y, int step) {
        /** The GLUE at the side d of the PLACE px, py, which is one of its PLACES. */
        int glueAt(int px, int py, int d) {
            if (!piece.isBlock()) {
                return new int[] {piece.above, piece.right, piece.below, piece.left}[d];
            }
            if (px == x) {
                return new int[] {piece.above, 0, piece.below, piece.left}[d];
            }
            return new int[] {piece.more % 64, piece.right, piece.more / 64, 0}[d];
        }

        boolean covers(int px, int py) {
            return py == y && (px == x || piece.isBlock() && px == x + 1);
        }
    }

    private enum Act { PUT, CAME, FORCED, WENT }

    private record Step(Act act, Lying what) { }

    private record Choice(Piece piece, int x, int y) { }

    private record Image(int[] strength, List<Piece> pieces, int warmth, List<Lying> sheet, long s) { }

    private int[] strength = new int[51];
    private List<Piece> pieces = new ArrayList<>();
    private int warmth = 2;
    private List<Lying> sheet = new ArrayList<>();
    private long s = 0;
    private final List<Integer> tape = new ArrayList<>();
    private List<Step> steps = new ArrayList<>();
    private int forgotten = 0;
    private int mostSteps = 0;
    private boolean sinceClear = true;
    private final Image[] images = new Image[3];
    private int walks = 0;
    private List<List<Lying>> shapes = null;
    private int ended;
    private int cut;

    PlainModel() {
        for (int k = 0; k < 3; k++) {
            keep(k);
        }
    }

    boolean glue(int glue, int strong) {
        if (glue < 1 || glue > 50 || strong < 0 || strong > 3 || !sheet.isEmpty()) {
            return false;
        }
        strength[glue] = strong;
        return true;
    }

    private static boolean glueOrNone(int glue) {
        return glue >= 0 && glue <= 50;
    }

    int piece(int kind, int above, int right, int below, int left, int more) {
        boolean can = glueOrNone(above) && glueOrNone(right) && glueOrNone(below) && glueOrNone(left)
            && pieces.size() < 40;
        if (kind == 0 || kind == 1 || kind == 3) {
            can &= more == 0;
        } else if (kind == 2) {
            boolean one = false;
            for (int up = 0; up <= 50; up++) {
                for (int down = 0; down <= 50; down++) {
                    one |= up + 64 * down == more;
                }
            }
            can &= one;
        } else if (kind == 4) {
            can &= more >= 0 && more < 16;
        } else if (kind == 5) {
            can &= more >= 16 && more < 256;
        } else {
            can = false;
        }
        if (!can) {
            return NONE;
        }
        pieces.add(new Piece(pieces.size(), kind, above, right, below, left, more));
        return pieces.size() - 1;
    }

    int feed(int... words) {
        if (tape.size() + 20 > 400) {
            return NONE;
        }
        for (int word : words) {
            tape.add(word >>> 24);
            tape.add(word >>> 16 & 255);
            tape.add(word >>> 8 & 255);
            tape.add(word & 255);
        }
        return tape.size();
    }

    int set(int n) {
        if (n < 0 || n > tape.size()) {
            return NONE;
        }
        List<Integer> read = new ArrayList<>(tape.subList(0, n));
        tape.clear();
        int came = 0;
        while (read.size() >= 8) {
            int more = read.get(6) * 256 + read.get(7);
            if (piece(read.get(0), read.get(1), read.get(2), read.get(3), read.get(4), more) == NONE) {
                return came;
            }
            came++;
            read.subList(0, 8).clear();
        }
        return came;
    }

    boolean warmth(int warm) {
        if (warm < 1 || warm > 3 || !sheet.isEmpty()) {
            return false;
        }
        warmth = warm;
        return true;
    }

    int clear() {
        int gone = sheet.size();
        sheet = new ArrayList<>();
        forgetSteps();
        sinceClear = true;
        return gone;
    }

    private void forgetSteps() {
        steps = new ArrayList<>();
        forgotten = 0;
        mostSteps = 0;
    }

    private Lying lyingAt(int x, int y) {
        for (Lying one : sheet) {
            if (one.covers(x, y)) {
                return one;
            }
        }
        return null;
    }

    /** Where the i-th of those on THE SHEET lies, as x + 16 * y: no call of the document's, but of use to a test. */
    int ownPlace(int i) {
        return number(sheet.get(i));
    }

    private Piece numbered(int piece) {
        return piece >= 0 && piece < pieces.size() ? pieces.get(piece) : null;
    }

    private static boolean onSheet(int x, int y) {
        return x >= 0 && x < 16 && y >= 0 && y < 16;
    }

    private boolean fits(Piece piece, int x, int y) {
        return onSheet(x, y) && lyingAt(x, y) == null
            && (!piece.isBlock() || onSheet(x + 1, y) && lyingAt(x + 1, y) == null);
    }

    private int holdOf(Lying one) {
        int sum = 0;
        for (int x = one.x; x <= one.x + (one.piece.isBlock() ? 1 : 0); x++) {
            for (int d = 0; d < 4; d++) {
                Lying other = lyingAt(x + DX[d], one.y + DY[d]);
                if (other != null && !other.equals(one)) {
                    sum += strengthBetween(one, x, one.y, d, other);
                }
            }
        }
        return sum;
    }

    private int strengthBetween(Lying one, int x, int y, int d, Lying other) {
        int mine = one.glueAt(x, y, d);
        int theirs = other.glueAt(x + DX[d], y + DY[d], (d + 2) % 4);
        return mine == theirs && mine != 0 ? strength[mine] : 0;
    }

    private boolean barred(Lying one) {
        for (int x = one.x; x <= one.x + (one.piece.isBlock() ? 1 : 0); x++) {
            for (int d = 0; d < 4; d++) {
                Lying other = lyingAt(x + DX[d], one.y + DY[d]);
                if (other != null && (other.piece.bars((d + 2) % 4) || one.piece.bars(d))) {
                    return true;
                }
            }
        }
        return false;
    }

    private boolean mayCome(Piece piece, int x, int y) {
        if (piece == null || piece.kind == 1 || !fits(piece, x, y)) {
            return false;
        }
        Lying asIf = new Lying(piece, x, y, NONE);
        return holdOf(asIf) >= warmth && !barred(asIf);
    }

    private void step(Act act, Piece piece, int x, int y) {
        Lying one = new Lying(piece, x, y, steps.size());
        sheet.add(one);
        count(new Step(act, one));
    }

    private void count(Step step) {
        steps.add(step);
        mostSteps = Math.max(mostSteps, steps.size());
        forgotten = Math.max(forgotten, steps.size() - 200);
    }

    boolean seed(int piece, int x, int y) {
        Piece one = numbered(piece);
        if (one == null || one.kind != 1 || !fits(one, x, y)) {
            return false;
        }
        for (Lying other : sheet) {
            if (other.piece.kind != 1) {
                return false;
            }
        }
        step(Act.PUT, one, x, y);
        return true;
    }

    boolean may(int piece, int x, int y) {
        return mayCome(numbered(piece), x, y);
    }

    int hold(int piece, int x, int y) {
        Piece one = numbered(piece);
        return one == null || !fits(one, x, y) ? NONE : holdOf(new Lying(one, x, y, NONE));
    }

    boolean come(int piece, int x, int y) {
        if (!may(piece, x, y)) {
            return false;
        }
        step(Act.CAME, numbered(piece), x, y);
        return true;
    }

    boolean go(int x, int y) {
        Lying one = lyingAt(x, y);
        if (one == null || one.piece.kind != 3 || holdOf(one) != warmth) {
            return false;
        }
        sheet.remove(one);
        if (!hangsTogether()) {
            sheet.add(one);
            return false;
        }
        count(new Step(Act.WENT, one));
        return true;
    }

    private boolean hangsTogether() {
        if (sheet.isEmpty()) {
            return true;
        }
        List<Lying> led = new ArrayList<>();
        led.add(sheet.get(0));
        for (int i = 0; i < led.size(); i++) {
            Lying one = led.get(i);
            for (int x = one.x; x <= one.x + (one.piece.isBlock() ? 1 : 0); x++) {
                for (int d = 0; d < 4; d++) {
                    Lying other = lyingAt(x + DX[d], one.y + DY[d]);
                    if (other != null && !led.contains(other) && strengthBetween(one, x, one.y, d, other) >= 1) {
                        led.add(other);
                    }
                }
            }
        }
        return led.size() == sheet.size();
    }

    boolean force(int piece, int x, int y) {
        Piece one = numbered(piece);
        if (one == null || one.kind == 1 || !fits(one, x, y)) {
            return false;
        }
        step(Act.FORCED, one, x, y);
        return true;
    }

    private List<Choice> listChoices() {
        List<Choice> list = new ArrayList<>();
        if (sheet.isEmpty()) {
            return list;
        }
        for (int y = 0; y < 16; y++) {
            for (int x = 0; x < 16; x++) {
                for (Piece piece : pieces) {
                    if (mayCome(piece, x, y)) {
                        list.add(new Choice(piece, x, y));
                    }
                }
            }
        }
        return list;
    }

    int choices() {
        return listChoices().size();
    }

    int choice(int k, int what) {
        List<Choice> list = listChoices();
        if (k < 0 || k >= list.size() || what < 0 || what > 2) {
            return NONE;
        }
        Choice one = list.get(k);
        return what == 0 ? one.piece.number : what == 1 ? one.x : one.y;
    }

    void draw(long start) {
        s = start;
    }

    int grow(int n) {
        if (n < 0 || n > 250) {
            return NONE;
        }
        int came = 0;
        while (came < n) {
            List<Choice> list = listChoices();
            if (list.isEmpty()) {
                return came;
            }
            s = s * 6364136223846793005L + 1442695040888963407L;
            Choice one = list.get((int) ((s >>> 33) % list.size()));
            step(Act.CAME, one.piece, one.x, one.y);
            came++;
        }
        return came;
    }

    int at(int x, int y) {
        Lying one = lyingAt(x, y);
        return one == null ? NONE : one.piece.number;
    }

    int of(int x, int y, int what) {
        Lying one = lyingAt(x, y);
        if (one == null) {
            return NONE;
        }
        if (what == 0) {
            return x > one.x ? 7 : one.piece.kind;
        }
        if (what == 1) {
            return one.piece.mark();
        }
        if (what == 2) {
            return holdOf(one);
        }
        return what == 3 ? one.step : NONE;
    }

    private static String key(List<Lying> shape) {
        String[] texts = new String[256];
        for (Lying one : shape) {
            texts[one.x + 16 * one.y] = one.piece.number + "";
            if (one.piece.isBlock()) {
                texts[one.x + 1 + 16 * one.y] = one.piece.number + "r";
            }
        }
        return String.join(",", texts);
    }

    int walk(int most) {
        if (most < 1 || most > 40 || sheet.size() > most || walks == 60) {
            return NONE;
        }
        walks++;
        List<Lying> asIs = sheet;
        boolean spent = wander(most);
        sheet = asIs;
        return spent ? -2 : shapes.size();
    }

    private boolean wander(int most) {
        Set<String> keys = new HashSet<>();
        shapes = new ArrayList<>();
        shapes.add(new ArrayList<>(sheet));
        keys.add(key(sheet));
        ended = 0;
        cut = 0;
        for (int k = 0; k < shapes.size(); k++) {
            List<Lying> shape = shapes.get(k);
            sheet = shape;
            List<Choice> list = listChoices();
            if (list.isEmpty()) {
                ended++;
                continue;
            }
            if (shape.size() == most) {
                cut++;
                continue;
            }
            for (Choice one : list) {
                List<Lying> next = new ArrayList<>(shape);
                next.add(new Lying(one.piece, one.x, one.y, NONE));
                if (keys.contains(key(next))) {
                    continue;
                }
                if (shapes.size() == 300) {
                    return true;
                }
                keys.add(key(next));
                shapes.add(next);
            }
        }
        return false;
    }

    int ways(int what) {
        if (shapes == null || what < 0 || what > 3) {
            return NONE;
        }
        int most = 0;
        for (List<Lying> shape : shapes) {
            most = Math.max(most, shape.size());
        }
        return new int[] {shapes.size(), ended, cut, most}[what];
    }

    int way(int k, int x, int y) {
        if (shapes == null || k < 0 || k >= shapes.size()) {
            return NONE;
        }
        for (Lying one : shapes.get(k)) {
            if (one.covers(x, y)) {
                return one.piece.number;
            }
        }
        return NONE;
    }

    int orderly() {
        if (!sinceClear || mostSteps > 200) {
            return NONE;
        }
        for (Step step : steps) {
            Piece piece = step.what.piece;
            boolean right = piece.kind == 0 || piece.kind == 1 || piece.kind == 5 && piece.more % 16 == 0;
            if (!right || step.act != Act.PUT && step.act != Act.CAME) {
                return NONE;
            }
        }
        List<Lying> asIs = sheet;
        int told = lookForFault();
        sheet = asIs;
        return told != 1 || listChoices().isEmpty() ? told : -4;
    }

    private static int number(Lying one) {
        return one.x + 16 * one.y;
    }

    /** By growing THE SHAPE once more; (c) is left out. */
    private int lookForFault() {
        List<List<Lying>> outputs = new ArrayList<>();
        sheet = new ArrayList<>();
        for (Step step : steps) {
            Lying one = step.what;
            if (one.piece.kind != 1) {
                if (holdOf(one) != warmth) {
                    return -2 - 4 * number(one);
                }
                for (int i = 0; i < steps.size(); i++) {
                    Lying earlier = steps.get(i).what;
                    if (sheet.contains(earlier) && areHeldTogether(one, earlier)) {
                        outputs.get(i).add(one);
                    }
                }
            }
            sheet.add(one);
            outputs.add(new ArrayList<>());
        }
        List<Lying> whole = sheet;
        for (int i = 0; i < steps.size(); i++) {
            Lying one = steps.get(i).what;
            sheet = new ArrayList<>(whole);
            sheet.remove(one);
            sheet.removeAll(outputs.get(i));
            if (one.piece.kind != 1 && hasRival(one)) {
                return -3 - 4 * number(one);
            }
        }
        return 1;
    }

    private boolean areHeldTogether(Lying one, Lying other) {
        for (int d = 0; d < 4; d++) {
            if (other.covers(one.x + DX[d], one.y + DY[d]) && strengthBetween(one, one.x, one.y, d, other) > 0) {
                return true;
            }
        }
        return false;
    }

    private boolean hasRival(Lying one) {
        for (Piece piece : pieces) {
            boolean asked = piece.kind == 0 || piece.kind == 3 || piece.kind == 5;
            if (asked && piece.number != one.piece.number
                    && holdOf(new Lying(piece, one.x, one.y, NONE)) >= warmth) {
                return true;
            }
        }
        return false;
    }

    int rule(int f, int g, int c, int r, int row, int column) {
        if (f < 0 || f > 15 || g < 0 || g > 15 || c < 1 || c > 15 || r < 1 || r > 15) {
            return NONE;
        }
        clear();
        pieces = new ArrayList<>();
        strength = new int[51];
        warmth = 2;
        for (int glue = 1; glue < 5; glue++) {
            glue(glue, 1);
        }
        for (int a = 0; a < 2; a++) {
            for (int b = 0; b < 2; b++) {
                int up = f / (1 << 2 * a + b) % 2;
                int left = g / (1 << 2 * a + b) % 2;
                piece(5, 1 + up, 3 + b, 1 + a, 3 + left, (1 + up) * 16);
            }
        }
        piece(1, 1, 0, 0, 0, 0);
        piece(1, 2, 0, 0, 0, 0);
        piece(1, 0, 0, 0, 3, 0);
        piece(1, 0, 0, 0, 4, 0);
        for (int i = c - 1; i >= 0; i--) {
            seed((row & 1 << i) == 0 ? 4 : 5, c - 1 - i, 15);
        }
        for (int j = 0; j < r; j++) {
            seed((column & 1 << j) == 0 ? 6 : 7, c, 14 - j);
        }
        return c + r;
    }

    int row(int y, int c) {
        if (y < 0 || y > 15 || c < 1 || c > 16) {
            return NONE;
        }
        int sum = 0;
        for (int x = 0; x < c; x++) {
            Lying one = lyingAt(x, y);
            if (one == null || one.piece.mark() < 1 || one.piece.mark() > 2) {
                return NONE;
            }
            sum += one.piece.mark() - 1 << c - 1 - x;
        }
        return sum;
    }

    int undo(int n) {
        if (n < 0 || n > steps.size() - forgotten) {
            return NONE;
        }
        for (int i = 0; i < n; i++) {
            Step step = steps.remove(steps.size() - 1);
            if (step.act == Act.WENT) {
                sheet.add(step.what);
            } else {
                sheet.remove(step.what);
            }
        }
        return n;
    }

    boolean keep(int k) {
        if (k < 0 || k > 2) {
            return false;
        }
        images[k] = new Image(strength.clone(), List.copyOf(pieces), warmth, List.copyOf(sheet), s);
        return true;
    }

    boolean back(int k) {
        if (k < 0 || k > 2) {
            return false;
        }
        Image image = images[k];
        strength = image.strength.clone();
        pieces = new ArrayList<>(image.pieces);
        warmth = image.warmth;
        s = image.s;
        sheet = new ArrayList<>();
        for (Lying one : image.sheet) {
            sheet.add(new Lying(one.piece, one.x, one.y, NONE));
        }
        forgetSteps();
        sinceClear = sheet.isEmpty();
        return true;
    }

    int about(int what) {
        switch (what) {
            case 0: return pieces.size();
            case 1: return sheet.size();
            case 2: return warmth;
            case 3: return steps.size();
            case 4: return steps.size() - forgotten;
            case 5: return tape.size();
            default: return NONE;
        }
    }
}
