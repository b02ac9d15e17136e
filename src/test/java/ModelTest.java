import java.util.ArrayList;
import java.util.List;
import java.util.Random;

/** Many drawn runs of calls, each answered by the class and by PlainModel: the answers must be the same. */
public final class ModelTest {
    private static final int RUNS = 1200;
    /** More calls than any one round of a run asks, so that the last look has some left. */
    private static final int MOST_A_ROUND = 200;

    private final Random random;
    private final Bench tiles = new Bench();
    private final PlainModel model = new PlainModel();
    private final List<String> calls = new ArrayList<>();
    /** What this run's PIECES are: how many GLUES they use, which KINDS, and whether blank sides are seldom. */
    private final int glues;
    private final int[] kinds;
    private final int blank;
    private boolean right = true;

    private ModelTest(long seed) {
        random = new Random(seed);
        glues = 1 + random.nextInt(1 + random.nextInt(6));
        int[][] sorts = {{0, 1, 2, 3, 4, 5}, {0, 0, 5}, {2, 2, 0}, {3, 3, 0}, {4, 5, 0}, {0, 0, 2, 2, 3, 3, 4, 5}};
        kinds = sorts[random.nextInt(sorts.length)];
        blank = 2 + random.nextInt(4);
    }

    public static void main(String[] args) {
        long first = args.length > 0 ? Long.parseLong(args[0]) : 0;
        int runs = args.length > 1 ? Integer.parseInt(args[1]) : RUNS;
        int wrong = 0;
        long asked = 0;
        for (long seed = first; seed < first + runs; seed++) {
            ModelTest test = new ModelTest(seed);
            test.run();
            asked += test.calls.size();
            if (!test.right) {
                wrong++;
                System.out.println("run " + seed + ": " + test.calls);
            }
        }
        System.out.println(asked + " calls compared, " + wrong + " runs not as due");
        if (wrong != 0) {
            System.exit(1);
        }
    }

    private void same(String call, long got, long want) {
        calls.add(call + "=" + got);
        if (got != want && right) {
            right = false;
            System.out.println(call + " answered " + got + ", due is " + want);
        }
    }

    private void same(String call, boolean got, boolean want) {
        same(call, got ? 1 : 0, want ? 1 : 0);
    }

    private void run() {
        if (random.nextInt(5) == 0) {
            rule();
        } else {
            setUp();
        }
        int n = 20 + random.nextInt(200);
        for (int i = 0; i < n && right && tiles.callsLeft() > MOST_A_ROUND; i++) {
            anyCall();
            if (model.about(1) == 0 && random.nextInt(3) == 0) {
                warmth(1 + random.nextInt(2));
                seed(random.nextInt(8), 3 + random.nextInt(10), 3 + random.nextInt(10));
            }
            if (random.nextInt(40) == 0) {
                lookAround(10);
            }
        }
        if (right) {
            lookAround(256);
        }
    }

    private void setUp() {
        for (int glue = 1; glue <= glues; glue++) {
            glue(glue, random.nextInt(8) == 0 ? 0 : 1 + random.nextInt(1 + random.nextInt(3)));
        }
        warmth(random.nextInt(4) == 0 ? 3 : 1 + random.nextInt(2));
        int before = random.nextInt(3) == 0 ? 1 + random.nextInt(3) : 0;
        for (int i = 0; i < before; i++) {
            drawnPiece(kinds[random.nextInt(kinds.length)]);
        }
        piece(1, 1, 1 + random.nextInt(glues), 1, 1 + random.nextInt(glues), 0);
        int seed = model.about(0) - 1;
        int n = 1 + random.nextInt(random.nextInt(6) == 0 ? 39 : 8);
        for (int i = 0; i < n; i++) {
            drawnPiece(kinds[random.nextInt(kinds.length)]);
        }
        int seeds = 1 + random.nextInt(2);
        for (int i = 0; i < seeds; i++) {
            seed(seed, place(), place());
        }
        if (random.nextInt(3) == 0) {
            grow(random.nextInt(random.nextInt(8) == 0 ? 251 : 20));
        }
    }

    private int place() {
        return random.nextInt(12) == 0 ? random.nextInt(19) - 1 : random.nextInt(3) == 0 ? 14 + random.nextInt(2)
            : 5 + random.nextInt(5);
    }

    /** A PLACE, as x + 32 * y with both one more, that is mostly at something that lies there. */
    private int near() {
        if (model.about(1) == 0 || random.nextInt(5) == 0) {
            return place() + 1 + 32 * (place() + 1);
        }
        int[] steps = {0, 1, -1, -2, 32, -32, 31, -33};
        int one = model.ownPlace(random.nextInt(model.about(1)));
        return Math.max(one % 16 + 1 + 32 * (one / 16 + 1) + steps[random.nextInt(steps.length)], 0);
    }

    private int face() {
        return random.nextInt(blank) == 0 ? 0 : 1 + random.nextInt(glues);
    }

    private int some(int below) {
        return random.nextInt(below + 3) - 1;
    }

    private int drawnMore(int kind) {
        if (random.nextInt(20) == 0) {
            return some(4000);
        }
        switch (kind) {
            case 2: return face() + 64 * face();
            case 4: return 1 << random.nextInt(4);
            case 5: return 16 * (1 + random.nextInt(random.nextBoolean() ? 2 : 15))
                + (random.nextInt(3) == 0 ? random.nextInt(16) : 0);
            default: return 0;
        }
    }

    private void drawnPiece(int kind) {
        piece(kind, face(), face(), face(), face(), drawnMore(kind));
    }

    private void anyCall() {
        switch (random.nextInt(36)) {
            case 0: glue(some(52), some(5)); break;
            case 1: drawnPiece(some(6)); break;
            case 2: feedPieces(); break;
            case 3: set(random.nextInt(3) == 0 ? some(60) : model.about(5)); break;
            case 4: warmth(some(4)); break;
            case 5: if (random.nextInt(8) == 0) clear(); break;
            case 6: seed(someOf(model.about(0)), place(), place()); break;
            case 7: case 8: nearby("may"); break;
            case 9: case 10: nearby("hold"); break;
            case 11: case 12: case 13: case 14: comeByChoice(); break;
            case 15: nearby("come"); break;
            case 16: case 17: case 18: goSome(); break;
            case 19: if (random.nextInt(4) == 0) nearby("force"); break;
            case 20: same("choices()", tiles.choices(), model.choices()); break;
            case 21: choice(someOf(model.choices()), some(3)); break;
            case 22: draw(random.nextLong()); break;
            case 23: grow(random.nextInt(10) == 0 ? some(252) : random.nextInt(12)); break;
            case 24: case 25: walk(random.nextInt(3) == 0 ? some(41) : model.about(1) + random.nextInt(5)); break;
            case 26: way(); break;
            case 27: case 28: same("orderly()", tiles.orderly(), model.orderly()); break;
            case 29: if (random.nextInt(8) == 0) rule(); break;
            case 30: row(some(16), some(17)); break;
            case 31: undo(random.nextInt(4) == 0 ? some(260) : someOf(1 + Math.min(4, model.about(4)))); break;
            case 32: keep(some(3)); break;
            case 33: if (random.nextInt(3) == 0) back(some(3)); break;
            case 34: about(); break;
            default: of(near() % 32 - 1, near() / 32 - 1, some(5)); break;
        }
    }

    private void nearby(String call) {
        int piece = someOf(model.about(0));
        int place = near();
        int x = place % 32 - 1;
        int y = place / 32 - 1;
        switch (call) {
            case "may": may(piece, x, y); break;
            case "hold": hold(piece, x, y); break;
            case "come": come(piece, x, y); break;
            default: force(piece, x, y); break;
        }
    }

    private int someOf(int n) {
        return n == 0 || random.nextInt(12) == 0 ? some(n) : random.nextInt(n);
    }

    /** Looks at so many drawn PLACES, or fewer if the object may not be asked so often any more. */
    private void lookAround(int places) {
        about();
        same("choices()", tiles.choices(), model.choices());
        for (int i = 0; i < places && tiles.callsLeft() >= 5; i++) {
            int place = near();
            int x = place % 32 - 1;
            int y = place / 32 - 1;
            same("at(" + x + ", " + y + ")", tiles.at(x, y), model.at(x, y));
            for (int what = 0; what < 4; what++) {
                of(x, y, what);
            }
        }
    }

    private void glue(int glue, int strength) {
        same("glue(" + glue + ", " + strength + ")", tiles.glue(glue, strength), model.glue(glue, strength));
    }

    private void piece(int kind, int above, int right, int below, int left, int more) {
        same("piece(" + kind + ", " + above + ", " + right + ", " + below + ", " + left + ", " + more + ")",
            tiles.piece(kind, above, right, below, left, more), model.piece(kind, above, right, below, left, more));
    }

    private void feedPieces() {
        int times = random.nextInt(12) == 0 ? 19 : 2;
        for (int i = 0; i < times; i++) {
            int[] words = new int[5];
            for (int k = 0; k < 5; k++) {
                boolean first = (model.about(5) / 4 + k) % 2 == 0;
                int kind = random.nextInt(10) == 0 ? random.nextInt(256) : kinds[random.nextInt(kinds.length)];
                words[k] = first ? kind << 24 | face() << 16 | face() << 8 | face()
                    : face() << 24 | random.nextInt(256) << 16 | drawnMore(random.nextInt(3) == 0 ? 5 : 0) & 0xFFFF;
            }
            same("feed(" + words[0] + ", " + words[1] + ", " + words[2] + ", " + words[3] + ", " + words[4] + ")",
                tiles.feed(words[0], words[1], words[2], words[3], words[4]), model.feed(words));
        }
    }

    private void set(int n) {
        same("set(" + n + ")", tiles.set(n), model.set(n));
    }

    private void warmth(int warmth) {
        same("warmth(" + warmth + ")", tiles.warmth(warmth), model.warmth(warmth));
    }

    private void clear() {
        same("clear()", tiles.clear(), model.clear());
    }

    private void seed(int piece, int x, int y) {
        same("seed(" + piece + ", " + x + ", " + y + ")", tiles.seed(piece, x, y), model.seed(piece, x, y));
    }

    private void may(int piece, int x, int y) {
        same("may(" + piece + ", " + x + ", " + y + ")", tiles.may(piece, x, y), model.may(piece, x, y));
    }

    private void hold(int piece, int x, int y) {
        same("hold(" + piece + ", " + x + ", " + y + ")", tiles.hold(piece, x, y), model.hold(piece, x, y));
    }

    private void comeByChoice() {
        int many = model.choices();
        if (many > 0) {
            int k = random.nextInt(many);
            come(model.choice(k, 0), model.choice(k, 1), model.choice(k, 2));
        }
    }

    private void come(int piece, int x, int y) {
        same("come(" + piece + ", " + x + ", " + y + ")", tiles.come(piece, x, y), model.come(piece, x, y));
    }

    private void goSome() {
        int left = 1 + random.nextInt(3);
        go(place(), place());
        for (int y = 0; y < 16; y++) {
            for (int x = 0; x < 16; x++) {
                if (left > 0 && model.of(x, y, 0) == 3 && random.nextInt(3) == 0) {
                    go(x, y);
                    left--;
                }
            }
        }
    }

    private void go(int x, int y) {
        same("go(" + x + ", " + y + ")", tiles.go(x, y), model.go(x, y));
    }

    private void force(int piece, int x, int y) {
        same("force(" + piece + ", " + x + ", " + y + ")", tiles.force(piece, x, y), model.force(piece, x, y));
    }

    private void choice(int k, int what) {
        same("choice(" + k + ", " + what + ")", tiles.choice(k, what), model.choice(k, what));
    }

    private void draw(long s) {
        tiles.draw(s);
        model.draw(s);
        calls.add("draw(" + s + ")");
    }

    private void grow(int n) {
        same("grow(" + n + ")", tiles.grow(n), model.grow(n));
    }

    private void of(int x, int y, int what) {
        same("of(" + x + ", " + y + ", " + what + ")", tiles.of(x, y, what), model.of(x, y, what));
    }

    private void walk(int most) {
        same("walk(" + most + ")", tiles.walk(most), model.walk(most));
        for (int what = -1; what <= 4; what++) {
            same("ways(" + what + ")", tiles.ways(what), model.ways(what));
        }
    }

    private void way() {
        int k = someOf(Math.max(0, model.ways(0)));
        for (int i = 0; i < 25; i++) {
            int place = near();
            int x = place % 32 - 1;
            int y = place / 32 - 1;
            same("way(" + k + ", " + x + ", " + y + ")", tiles.way(k, x, y), model.way(k, x, y));
        }
    }

    private void rule() {
        int f = random.nextInt(10) == 0 ? some(16) : random.nextInt(16);
        int g = random.nextInt(10) == 0 ? some(16) : random.nextInt(16);
        int c = random.nextInt(4) == 0 ? some(16) : 1 + random.nextInt(5);
        int r = random.nextInt(4) == 0 ? some(16) : 1 + random.nextInt(5);
        int row = random.nextInt();
        int column = random.nextInt();
        same("rule(" + f + ", " + g + ", " + c + ", " + r + ", " + row + ", " + column + ")",
            tiles.rule(f, g, c, r, row, column), model.rule(f, g, c, r, row, column));
        if (random.nextInt(3) == 0) {
            grow(random.nextInt(251));
            row(14, c);
            row(15 - Math.max(1, r), c);
        }
    }

    private void row(int y, int c) {
        same("row(" + y + ", " + c + ")", tiles.row(y, c), model.row(y, c));
    }

    private void undo(int n) {
        same("undo(" + n + ")", tiles.undo(n), model.undo(n));
    }

    private void keep(int k) {
        same("keep(" + k + ")", tiles.keep(k), model.keep(k));
    }

    private void back(int k) {
        same("back(" + k + ")", tiles.back(k), model.back(k));
    }

    private void about() {
        for (int what = -1; what <= 6; what++) {
            same("about(" + what + ")", tiles.about(what), model.about(what));
        }
    }
}
