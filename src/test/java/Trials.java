import java.util.NoSuchElementException;

/** Tries calls, each on an object made anew in one state, so that no call sees what another one left. */
final class Trials {
    /** A call that may answer or throw. */
    interface Call {
        long on(GearObservatory x);
    }

    private final Checks check;
    private final String state;
    private final Looks.Maker maker;
    private final String untouched;

    Trials(Checks check, String state, Looks.Maker maker) {
        this.check = check;
        this.state = state;
        this.maker = maker;
        this.untouched = Looks.atAll(maker);
    }

    /** The call answers what is due, whatever it changes. */
    void gives(String what, long due, Call call) {
        check.same(what + " with " + state, call.on(Looks.made(maker)), due);
    }

    /** The call answers what is due and changes nothing. */
    void asks(String what, long due, Call call) {
        gives(what, due, call);
        leavesAll(what, call);
    }

    void noIndex(String what, Call call) {
        refused(what, IndexOutOfBoundsException.class, call);
    }

    void badArgument(String what, Call call) {
        refused(what, IllegalArgumentException.class, call);
    }

    void badState(String what, Call call) {
        refused(what, IllegalStateException.class, call);
    }

    void noElement(String what, Call call) {
        refused(what, NoSuchElementException.class, call);
    }

    void noMean(String what, Call call) {
        refused(what, ArithmeticException.class, call);
    }

    /** The call throws the exception and changes nothing. */
    private void refused(String what, Class<? extends RuntimeException> due, Call call) {
        GearObservatory x = Looks.made(maker);
        check.thrown(what + " with " + state, due, () -> call.on(x));
        leavesAll(what, call);
    }

    private void leavesAll(String what, Call call) {
        String after = Looks.atAll(x -> {
            maker.make(x);
            quietly(x, call);
        });
        check.yes(what + " with " + state + " changes nothing: " + untouched + "\nbut afterwards: " + after,
                after.equals(untouched));
    }

    static void quietly(GearObservatory x, Call call) {
        try {
            call.on(x);
        } catch (RuntimeException e) {
            // Only what the call leaves is looked at.
        }
    }
}
