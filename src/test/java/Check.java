/** Counts answers that are not as due; ends a test's main method with exit code 1 if there was one. */
final class Check {
    interface Call {
        void run();
    }

    private final String test;
    private int wrong;
    private int asked;

    Check(String itsTest) {
        test = itsTest;
    }

    void due(String what, long got, long due) {
        asked++;
        if (got != due) {
            wrong++;
            System.out.println(test + ": " + what + " answered " + got + ", due is " + due);
        }
    }

    void due(String what, boolean got, boolean due) {
        due(what, got ? 1 : 0, due ? 1 : 0);
    }

    void so(String what, boolean is) {
        asked++;
        if (!is) {
            wrong++;
            System.out.println(test + ": " + what);
        }
    }

    void index(String what, Call call) {
        thrown(what, call, IndexOutOfBoundsException.class);
    }

    void argument(String what, Call call) {
        thrown(what, call, IllegalArgumentException.class);
    }

    void state(String what, Call call) {
        thrown(what, call, IllegalStateException.class);
    }

    private void thrown(String what, Call call, Class<?> due) {
        asked++;
        String got = "nothing";
        try {
            call.run();
        } catch (RuntimeException e) {
            got = e.getClass().getSimpleName();
        }
        if (!got.equals(due.getSimpleName())) {
            wrong++;
            System.out.println(test + ": " + what + " threw " + got + ", due is " + due.getSimpleName());
        }
    }

    void end() {
        System.out.println(test + ": " + asked + " checks, " + wrong + " wrong");
        if (wrong > 0) {
            System.exit(1);
        }
    }
}
