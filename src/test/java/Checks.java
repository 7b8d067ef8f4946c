/** Counts answers that are not as due, and prints them. */
final class Checks {
    private final String name;
    private int made = 0;
    private int wrong = 0;

    Checks(String name) {
        this.name = name;
    }

    /** A call that is made for its answer or its exception. */
    interface Call {
        long answer();
    }

    void due(String call, long got, long want) {
        made++;
        if (got != want) {
            wrong++;
            System.out.println(name + ": " + call + " answered " + got + ", due is " + want);
        }
    }

    void due(String call, boolean got, boolean want) {
        due(call, got ? 1 : 0, want ? 1 : 0);
    }

    void dueThrow(String call, Class<? extends RuntimeException> want, Call made) {
        this.made++;
        try {
            long got = made.answer();
            wrong++;
            System.out.println(name + ": " + call + " answered " + got + ", due is " + want.getSimpleName());
        } catch (RuntimeException e) {
            if (e.getClass() != want) {
                wrong++;
                System.out.println(name + ": " + call + " threw " + e + ", due is " + want.getSimpleName());
            }
        }
    }

    void dueNoPlace(String call, Call made) {
        dueThrow(call, IndexOutOfBoundsException.class, made);
    }

    void dueBadArgument(String call, Call made) {
        dueThrow(call, IllegalArgumentException.class, made);
    }

    void dueBadState(String call, Call made) {
        dueThrow(call, IllegalStateException.class, made);
    }

    /** Ends the program with exit code 1 if something was wrong. */
    void end() {
        System.out.println(name + ": " + made + " checks, " + wrong + " wrong");
        if (wrong > 0) {
            System.exit(1);
        }
    }
}
