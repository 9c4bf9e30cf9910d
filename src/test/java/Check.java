/** Counts answers that are not the ones that are due. */
final class Check {
    private final String test;
    private int wrong;
    private int looks;

    Check(String test) {
        this.test = test;
    }

    void same(String what, long got, long due) {
        looks++;
        if (got != due) {
            say(what + " answered " + got + ", due is " + due);
        }
    }

    void isTrue(String what, boolean holds) {
        looks++;
        if (!holds) {
            say(what + " does not hold");
        }
    }

    /** A call that is to throw just this exception. */
    void raises(String what, Class<? extends Throwable> due, Runnable call) {
        looks++;
        try {
            call.run();
            say(what + " threw nothing, due is " + due.getSimpleName());
        } catch (Throwable got) {
            if (got.getClass() != due) {
                say(what + " threw " + got.getClass().getSimpleName() + ", due is " + due.getSimpleName());
            }
        }
    }

    private void say(String what) {
        wrong++;
        if (wrong <= 50) {
            System.out.println(test + ": " + what);
        }
    }

    int wrong() {
        return wrong;
    }

    void end() {
        System.out.println(test + ": " + looks + " looks, " + wrong + " wrong");
        System.exit(wrong == 0 ? 0 : 1);
    }
}
