import java.util.function.Predicate;
import java.util.function.Supplier;
import java.util.function.ToIntFunction;

/** What a call that is refused leaves as it was: all that can be told of an object is the same behind it. */
final class Unchanged {
    private final Due due;
    private final Supplier<Bench> maker;
    private final Picture before;

    Unchanged(Due due, Supplier<Bench> maker) {
        this.due = due;
        this.maker = maker;
        before = Picture.of(maker);
    }

    /** The call is answered NONE, and nothing changed. */
    void none(String call, ToIntFunction<Bench> asked) {
        by(call, asked, GrowingTiles.NONE);
    }

    /** The call is answered false, and nothing changed. */
    void refused(String call, Predicate<Bench> asked) {
        by(call, x -> asked.test(x) ? 1 : 0, 0);
    }

    void by(String call, ToIntFunction<Bench> asked, int want) {
        due.is(call, asked.applyAsInt(maker.get()), want);
        before.isLike(due, call + ": nothing changed", Picture.of(() -> {
            Bench x = maker.get();
            asked.applyAsInt(x);
            return x;
        }));
    }
}
