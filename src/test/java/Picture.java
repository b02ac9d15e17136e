import java.util.ArrayList;
import java.util.List;
import java.util.function.Consumer;
import java.util.function.Supplier;

/**
 * All that calls can tell of an object, as a row of answers: what is on THE SHEET, the STEPS, s, the TAPE, GLUES, PIECES,
 * the IMAGES, the latest walk() and how often it may be asked. As one object is good for 512 calls, the questions go to
 * many that were made in the same way.
 */
final class Picture {
    private static final int FEW_PIECES = 7;

    private final Supplier<Bench> maker;
    private final List<Integer> answers = new ArrayList<>();
    private final List<String> questions = new ArrayList<>();
    private String part = "";

    private Picture(Supplier<Bench> maker) {
        this.maker = maker;
    }

    /** All there is. */
    static Picture of(Supplier<Bench> maker) {
        Picture picture = ofSheet(maker);
        picture.askAside();
        picture.askWalks();
        return picture;
    }

    /** All but the latest walk() and how often it may be asked. */
    static Picture withoutWalks(Supplier<Bench> maker) {
        Picture picture = ofSheet(maker);
        picture.askAside();
        return picture;
    }

    /** THE SHEET and its STEPS, GLUES, PIECES and THE WARMTH alone. */
    static Picture ofSheet(Supplier<Bench> maker) {
        Picture picture = new Picture(maker);
        picture.askSheetAndSteps();
        return picture;
    }

    private void askSheetAndSteps() {
        ask("about", this::askAbout);
        askSheet("now", x -> { });
        ask("choices", this::askChoices);
        askSheet("undone", x -> note(x.undo(Math.min(9, Math.max(0, x.about(4))))));
        askSheet("all undone", x -> note(x.undo(Math.max(0, x.about(4)))));
        ask("glues", x -> askGlues(x, 1));
        ask("higher glues", x -> askGlues(x, 26));
        ask("pieces", x -> askPieces(x, 0));
        ask("higher pieces", x -> askPieces(x, 4));
    }

    /** s, the TAPE and the IMAGES. */
    private void askAside() {
        askSheet("drawn on", x -> x.grow(6));
        ask("s", this::askDraws);
        ask("tape", this::askTape);
        for (int k = 0; k < 3; k++) {
            int image = k;
            ask("about image " + k, x -> {
                x.back(image);
                askAbout(x);
            });
            askSheet("image " + k, x -> x.back(image));
            askSheet("image drawn on " + k, x -> {
                x.back(image);
                x.grow(6);
            });
            ask("s of image " + k, x -> {
                x.back(image);
                askDraws(x);
            });
            ask("glues of image " + k, x -> {
                x.back(image);
                askGlues(x, 1);
            });
        }
    }

    private void askWalks() {
        ask("latest walk", this::askWays);
        ask("walks left", this::askWalksLeft);
    }

    /** The test asks that the other one be the same. */
    void isLike(Due due, String name, Picture other) {
        String differs = differs(other);
        if (!differs.isEmpty()) {
            System.out.println(name + ": not the same: " + differs);
        }
        due.is(name, differs.isEmpty(), true);
    }

    /** The first question that the other one answers in another way; an empty text if there is none. */
    private String differs(Picture other) {
        int n = Math.min(answers.size(), other.answers.size());
        for (int i = 0; i < n; i++) {
            if (!answers.get(i).equals(other.answers.get(i))) {
                return questions.get(i) + ": " + answers.get(i) + " and " + other.answers.get(i);
            }
        }
        return answers.size() == other.answers.size() ? "" : "how many answers there are";
    }

    private void ask(String name, Consumer<Bench> questioner) {
        part = name;
        questioner.accept(maker.get());
    }

    private void note(int answer) {
        answers.add(answer);
        questions.add(part);
    }

    private void askSheet(String name, Consumer<Bench> before) {
        for (int quarter = 0; quarter < 4; quarter++) {
            part = name;
            Bench x = maker.get();
            before.accept(x);
            for (int place = 64 * quarter; place < 64 * quarter + 64; place++) {
                part = name + " at " + place % 16 + ", " + place / 16;
                note(x.at(place % 16, place / 16));
                if (x.at(place % 16, place / 16) != GrowingTiles.NONE) {
                    note(x.of(place % 16, place / 16, 0));
                    note(x.of(place % 16, place / 16, 2));
                    note(x.of(place % 16, place / 16, 3));
                }
            }
        }
    }

    /** The bytes on the TAPE are asked with the TAPE. */
    private void askAbout(Bench x) {
        for (int what = 0; what < 5; what++) {
            note(x.about(what));
        }
        note(x.orderly());
    }

    private void askChoices(Bench x) {
        int many = x.choices();
        note(many);
        for (int k = 0; k < many && k < 100; k++) {
            for (int what = 0; what < 3; what++) {
                note(x.choice(k, what));
            }
        }
    }

    private void askWays(Bench x) {
        for (int what = 0; what < 4; what++) {
            note(x.ways(what));
        }
        int last = x.ways(0) - 1;
        for (int place = 0; place < 256; place += 3) {
            note(x.way(0, place % 16, place / 16));
            note(x.way(1, place % 16, place / 16));
            note(x.way(last, place % 16, place / 16));
        }
    }

    /** s, by what is drawn to a SEED on a SHEET that is clear then, as far as there is room for two PIECES more. */
    private void askDraws(Bench x) {
        x.clear();
        x.glue(50, 3);
        int seed = x.piece(1, 50, 50, 50, 50, 0);
        x.piece(0, 50, 50, 50, 50, 0);
        x.seed(seed, 8, 8);
        x.grow(9);
        for (int place = 0; place < 256; place++) {
            note(x.of(place % 16, place / 16, 3));
        }
    }

    private void askTape(Bench x) {
        int before = x.about(0);
        note(x.about(5));
        int came = x.set(Math.max(0, x.about(5)));
        note(came);
        x.clear();
        for (int i = 0; i < came && i < 16; i++) {
            note(x.force(before + i, i, 0) ? x.of(i, 0, 0) : GrowingTiles.NONE);
            note(x.of(i, 0, 1));
        }
    }

    /** The STRENGTH of 25 GLUES, by PIECES more that show them, as far as there is room for such. */
    private void askGlues(Bench x, int first) {
        x.clear();
        for (int glue = first; glue < first + 25; glue++) {
            int piece = x.piece(0, glue, 0, glue, 0, 0);
            note(piece);
            if (piece != GrowingTiles.NONE) {
                x.force(piece, 5, 5);
                note(x.hold(piece, 5, 6));
                x.clear();
            }
        }
    }

    /** What four of the first few PIECES show to, and bar from, all of these. */
    private void askPieces(Bench x, int first) {
        int few = Math.min(FEW_PIECES, x.about(0));
        for (int p = first; p < few && p < first + 4; p++) {
            x.clear();
            note(x.seed(p, 8, 8) || x.force(p, 8, 8) ? 1 : 0);
            note(x.of(8, 8, 1));
            for (int q = 0; q < few; q++) {
                note(x.hold(q, 8, 7));
                note(x.hold(q, 6, 8));
                note(x.hold(q, 7, 8));
                note(x.hold(q, 8, 9));
                note(x.hold(q, 9, 8));
                note(x.hold(q, 7, 9));
                note(x.may(q, 8, 7) ? 1 : 0);
                note(x.may(q, 7, 8) ? 1 : 0);
            }
        }
    }

    private void askWalksLeft(Bench x) {
        x.clear();
        int times = 0;
        for (int i = 0; i < 61; i++) {
            times += x.walk(1) == GrowingTiles.NONE ? 0 : 1;
        }
        note(times);
    }
}
