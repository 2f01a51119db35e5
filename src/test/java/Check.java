/** Counts and prints the answers that are not as due. */
final class Check {
    interface Call {
        Object run();
    }

    private final String name;
    private int wrong;
    private int count;

    Check(String name) {
        this.name = name;
    }

    void equal(String what, Object got, Object due) {
        count++;
        if (!got.equals(due)) {
            wrong++;
            System.out.println(what + " answered " + got + ", due is " + due);
        }
    }

    /** Exactly this class: the machine's own exceptions are subclasses of those that are due. */
    void fails(String what, Class<? extends RuntimeException> due, Call call) {
        equal(what, answer(call), "throws " + due.getSimpleName());
    }

    void outOfBounds(String what, Call call) {
        fails(what, IndexOutOfBoundsException.class, call);
    }

    void badArgument(String what, Call call) {
        fails(what, IllegalArgumentException.class, call);
    }

    void badState(String what, Call call) {
        fails(what, IllegalStateException.class, call);
    }

    static Object answer(Call call) {
        try {
            return call.run();
        } catch (RuntimeException e) {
            return "throws " + e.getClass().getSimpleName();
        }
    }

    int wrong() {
        return wrong;
    }

    void finish() {
        System.out.println(name + ": " + (count - wrong) + " of " + count + " answers as due");
        if (wrong != 0) {
            System.exit(1);
        }
    }
}
