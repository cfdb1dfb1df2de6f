import java.util.function.Supplier;

/** Calls on objects that are made alike: what the last numbers that are taken answer, and the first that are refused. */
final class Edges {
    /** A call with one of its numbers left open. */
    interface Call {
        int on(PinAngels x, int v);
    }

    /** A call with all its numbers told. */
    interface Whole {
        int on(PinAngels x);
    }

    private final Due due;
    private final String name;
    private final Supplier<PinAngels> made;
    private final String untouched;

    Edges(Due due, String name, Supplier<PinAngels> made) {
        this.due = due;
        this.name = name;
        this.made = made;
        untouched = Probe.of(made.get());
    }

    void answers(String call, int want, Whole whole) {
        due.is(name + ": " + call, whole.on(made.get()), want);
    }

    /** The answer is due, and behind it all is as if the call had not been. */
    void changesNothing(String call, int want, Whole whole) {
        PinAngels x = made.get();
        due.is(name + ": " + call, whole.on(x), want);
        due.same(name + ": behind " + call, Probe.of(x), untouched);
    }

    /** From low to high a number is taken, with these answers at the ends; below and above it is refused. */
    void range(String call, int low, int atLow, int high, int atHigh, int refused, Call open) {
        above(call, high, atHigh, refused, open);
        below(call, low, atLow, refused, open);
    }

    void below(String call, int low, int atLow, int refused, Call open) {
        taken(call, low, atLow, open);
        refusedAt(call, low - 1, refused, open);
        refusedAt(call, Integer.MIN_VALUE, refused, open);
    }

    void above(String call, int high, int atHigh, int refused, Call open) {
        taken(call, high, atHigh, open);
        refusedAt(call, high + 1, refused, open);
        refusedAt(call, Integer.MAX_VALUE, refused, open);
    }

    private void taken(String call, int v, int want, Call open) {
        due.is(name + ": " + call + " by " + v, open.on(made.get(), v), want);
    }

    private void refusedAt(String call, int v, int want, Call open) {
        changesNothing(call + " by " + v, want, x -> open.on(x, v));
    }
}
