/** Counts and prints what is not as due. */
final class Check {
    interface Call {
        void run();
    }

    private int wrong;

    void due(String what, long got, long want) {
        if (got != want) {
            wrong++;
            System.out.println(what + " answered " + got + ", due is " + want);
        }
    }

    void text(String what, String got, String want) {
        if (!got.equals(want)) {
            wrong++;
            System.out.println(what + " is " + got + ", due is " + want);
        }
    }

    void right(String what, boolean holds) {
        due(what, holds ? 1 : 0, 1);
    }

    /** The very class is asked for: one below it would be an exception of the machine. */
    void refused(String what, Class<? extends RuntimeException> want, Call call) {
        String got = "nothing";
        try {
            call.run();
        } catch (RuntimeException e) {
            got = e.getClass().getName();
        }
        if (!got.equals(want.getName())) {
            wrong++;
            System.out.println(what + " threw " + got + ", due is " + want.getName());
        }
    }

    void noPlace(String what, Call call) {
        refused(what, IndexOutOfBoundsException.class, call);
    }

    void noArgument(String what, Call call) {
        refused(what, IllegalArgumentException.class, call);
    }

    void noState(String what, Call call) {
        refused(what, IllegalStateException.class, call);
    }

    void end(String name) {
        System.out.println(name + (wrong == 0 ? ": all is as due" : ": " + wrong + " things are not as due"));
        if (wrong != 0) {
            System.exit(1);
        }
    }
}
