import java.util.function.Supplier;

/**
 * A refused call must leave an exchange like its twin, on which it was not made. What an exchange
 * tells is written down: all that can be asked, then what undo, the slots and the buffer still hold.
 * Exchanges of at most 4 people and 5 lines keep within the 512 calls that an object is used for.
 */
final class Twins {
    private static final int SPACES = 0x20202020;

    private final Checks checks;
    private final Supplier<NewsExchange> make;

    Twins(Checks checks, Supplier<NewsExchange> make) {
        this.checks = checks;
        this.make = make;
    }

    /** A call on an exchange. */
    interface Try {
        long on(NewsExchange x);
    }

    void noPlace(String name, Try refused) {
        throwing(name, IndexOutOfBoundsException.class, refused);
    }

    void badArgument(String name, Try refused) {
        throwing(name, IllegalArgumentException.class, refused);
    }

    void badState(String name, Try refused) {
        throwing(name, IllegalStateException.class, refused);
    }

    private void throwing(String name, Class<? extends RuntimeException> want, Try refused) {
        NewsExchange x = make.get();
        checks.dueThrow(name, want, () -> refused.on(x));
        checks.dueThrow(name + " again", want, () -> refused.on(x));
        same(name, x);
    }

    /** A call that answers that it did nothing, or one that only asks. */
    void answering(String name, long want, Try harmless) {
        NewsExchange x = make.get();
        checks.due(name, harmless.on(x), want);
        checks.due(name + " again", harmless.on(x), want);
        same(name, x);
    }

    private void same(String name, NewsExchange x) {
        String got = story(x);
        String want = story(make.get());
        checks.due(name + " changed something, " + firstDifference(got, want) + ": same", got.equals(want), true);
    }

    private static String firstDifference(String got, String want) {
        int at = 0;
        while (at < got.length() && at < want.length() && got.charAt(at) == want.charAt(at)) {
            at++;
        }
        return got.substring(Math.max(0, at - 20), Math.min(got.length(), at + 20));
    }

    static String story(NewsExchange x) {
        StringBuilder story = new StringBuilder();
        tell(story, "error", x::errorPosition);
        story.append(standing(x));
        tellBuffer(story, x);
        return story.toString();
    }

    /** All but the buffer and the parse error: what a text that is wrong must not touch. */
    static String standing(NewsExchange x) {
        StringBuilder story = new StringBuilder();
        tellExchange(story, x);
        tellBounds(story, x);
        tellSituation(story, x);
        for (int left = 10; left >= 0; left--) {
            tell(story, "undo", x::undo);
            tellSituation(story, x);
        }
        for (int slot = 0; slot < 2; slot++) {
            int s = slot;
            tell(story, "restore", () -> x.restoreSnapshot(s));
            tellSituation(story, x);
        }
        return story.toString();
    }

    private static void tell(StringBuilder story, String call, Checks.Call made) {
        story.append(call).append(' ');
        try {
            story.append(made.answer());
        } catch (RuntimeException e) {
            story.append(e.getClass().getSimpleName());
        }
        story.append('\n');
    }

    private static void tellExchange(StringBuilder story, NewsExchange x) {
        int lines = x.size(1);
        for (int line = 0; line < lines; line++) {
            for (int what = 0; what <= 6; what++) {
                story.append(x.line(line, what)).append(' ');
            }
            for (int round = 1; round <= 3; round++) {
                story.append(x.isUsable(line, round)).append(' ');
            }
            story.append(x.cheapestLine(line)).append('\n');
        }
    }

    private static void tellBounds(StringBuilder story, NewsExchange x) {
        for (int what = 0; what <= 2; what++) {
            story.append(x.best(what)).append(' ').append(x.plan(what + 1)).append(' ');
        }
        story.append(x.plan(0)).append(' ').append(x.fewest(4)).append(' ').append(x.doublings()).append('\n');
        story.append(x.vital()).append(' ').append(x.gain()).append(' ').append(x.missing()).append('\n');
        int people = x.size(0);
        for (int person = 0; person < people; person++) {
            story.append(x.knowers(person)).append(' ').append(x.partner(person)).append(' ');
            story.append(x.soonest(person, 0)).append(' ').append(x.cheapest(0, person)).append('\n');
        }
    }

    private static void tellSituation(StringBuilder story, NewsExchange x) {
        int[] sizes = new int[6];
        for (int what = 0; what <= 5; what++) {
            sizes[what] = x.size(what);
            story.append(sizes[what]).append(' ');
        }
        for (int person = 0; person < sizes[0]; person++) {
            story.append(x.known(person)).append(' ');
        }
        for (int line = 0; line < sizes[1]; line++) {
            story.append(x.line(line, 4)).append(' ');
        }
        for (int round = 1; round <= 3; round++) {
            story.append(x.spent(round)).append(' ');
        }
        story.append(x.arranged()).append('\n');
    }

    /** Reads what the buffer holds, which ends everything else. */
    private static void tellBuffer(StringBuilder story, NewsExchange x) {
        int length = x.append(SPACES, SPACES, SPACES, SPACES, SPACES);
        story.append("buffer ").append(length).append('\n');
        tell(story, "parse", () -> x.parse(length == NewsExchange.NONE ? 500 : length));
        tell(story, "error", x::errorPosition);
        tellSituation(story, x);
    }
}
