import java.util.List;
import java.util.function.Supplier;
import java.util.function.ToIntFunction;

/** Asks refusals of new cities that are all alike, and sees that they change nothing. */
final class Edges {
    interface ByNumber {
        int ask(FreeCity x, int n);
    }

    private final Check check;
    private final Supplier<FreeCity> maker;
    private final List<String> untouched;

    Edges(Check check, Supplier<FreeCity> maker) {
        this.check = check;
        this.maker = maker;
        this.untouched = Portrait.of(maker.get());
    }

    /** One call on a city of its own is refused, and the city is as it was. */
    void refused(String call, int answer, ToIntFunction<FreeCity> asked) {
        FreeCity x = maker.get();
        check.due(call, asked.applyAsInt(x), answer);
        String unlike = Portrait.unlike(Portrait.of(x), untouched);
        check.so(call + " changes nothing, but there is " + unlike, unlike.isEmpty());
    }

    /** The least and the greatest number are taken; the ones beyond are refused, as are those far beyond. */
    void bounds(String call, int least, int most, int answer, ByNumber asked) {
        within(call, least, most, asked);
        beyond(call, least, most, answer, asked);
    }

    void within(String call, int least, int most, ByNumber asked) {
        for (int n : new int[] {least, most}) {
            int got = asked.ask(maker.get(), n);
            check.so(call + " takes " + n + " but answered " + got, got >= 0);
        }
    }

    void beyond(String call, int least, int most, int answer, ByNumber asked) {
        for (int n : new int[] {least - 1, most + 1, Integer.MIN_VALUE, Integer.MAX_VALUE}) {
            refused(call + " with " + n, answer, x -> asked.ask(x, n));
        }
    }
}
