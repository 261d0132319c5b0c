/** Compares answers with the due ones, counts what is wrong, and ends a test program. */
final class Checks {
    /** A call that may answer or throw. */
    interface Call {
        long answer();
    }

    private final String name;
    private int made;
    private int wrong;

    Checks(String name) {
        this.name = name;
    }

    void same(String what, long got, long due) {
        made++;
        if (got != due) {
            say(what + " answered " + got + ", due is " + due);
        }
    }

    void yes(String what, boolean got) {
        same(what, got ? 1 : 0, 1);
    }

    void no(String what, boolean got) {
        same(what, got ? 1 : 0, 0);
    }

    void exactly(String what, double got, double due) {
        made++;
        if (got != due) {
            say(what + " answered " + got + ", due is " + due);
        }
    }

    void thrown(String what, Class<? extends RuntimeException> due, Call call) {
        made++;
        try {
            long got = call.answer();
            say(what + " answered " + got + ", due is a " + due.getSimpleName());
        } catch (RuntimeException e) {
            if (e.getClass() != due || !isOfTheClass(e)) {
                say(what + " threw " + e + ", due is a " + due.getSimpleName() + " of the class itself");
            }
        }
    }

    /** The class throws without a text. The machine puts a text, or leaves the trace out where it throws often. */
    static boolean isOfTheClass(RuntimeException e) {
        return e.getMessage() == null && e.getStackTrace().length > 0;
    }

    void noIndex(String what, Call call) {
        thrown(what, IndexOutOfBoundsException.class, call);
    }

    void badArgument(String what, Call call) {
        thrown(what, IllegalArgumentException.class, call);
    }

    void badState(String what, Call call) {
        thrown(what, IllegalStateException.class, call);
    }

    void noElement(String what, Call call) {
        thrown(what, java.util.NoSuchElementException.class, call);
    }

    void noMean(String what, Call call) {
        thrown(what, ArithmeticException.class, call);
    }

    void say(String line) {
        wrong++;
        if (wrong <= 50) {
            System.out.println(name + ": " + line);
        }
    }

    void end() {
        System.out.println(name + ": " + made + " checks, " + wrong + " wrong");
        if (wrong > 0) {
            System.exit(1);
        }
    }

    /** The output of the observatory, sign by sign until there is none. */
    static String outputOf(GearObservatory x, int length) {
        StringBuilder text = new StringBuilder();
        for (int i = 0; i < length; i++) {
            text.append(x.outputCharacter(i));
        }
        return text.toString();
    }

    static void feed(GearObservatory x, String text) {
        for (int i = 0; i < text.length(); i++) {
            x.feed(text.charAt(i));
        }
    }

    static int execute(GearObservatory x, String text) {
        feed(x, text);
        return x.execute();
    }
}
