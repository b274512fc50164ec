/** Counts what a test asked and prints every answer that is not the one that is due. */
final class Check {
    private final String name;
    private int asked;
    private int wrong;

    Check(String name) {
        this.name = name;
    }

    void same(String what, long got, long due) {
        judge(what, got == due, Long.toString(got), Long.toString(due));
    }

    void same(String what, double got, double due) {
        judge(what, got == due, Double.toString(got), Double.toString(due));
    }

    void holds(String what, boolean got) {
        judge(what, got, "false", "true");
    }

    /** A number out of range, or an atom that is not there. */
    void bad(String what, Runnable call) {
        thrown(what, IllegalArgumentException.class, call);
    }

    /** No room, or not now. */
    void refused(String what, Runnable call) {
        thrown(what, IllegalStateException.class, call);
    }

    /** OVERLAP, STIFF or BLOWN. */
    void broken(String what, Runnable call) {
        thrown(what, ArithmeticException.class, call);
    }

    void thrown(String what, Class<?> due, Runnable call) {
        Class<?> got = null;
        try {
            call.run();
        } catch (RuntimeException e) {
            got = e.getClass();
        }
        judge(what, got == due, got == null ? "nothing thrown" : got.getSimpleName(),
                due.getSimpleName());
    }

    /** Ends the program with 1 if an answer was wrong. */
    void end() {
        System.out.println(name + ": " + asked + " asked, " + wrong + " wrong");
        if (wrong > 0 || asked == 0) {
            System.exit(1);
        }
    }

    private void judge(String what, boolean right, String got, String due) {
        asked++;
        if (!right) {
            wrong++;
            System.out.println(name + ": " + what + " answered " + got + ", due is " + due);
        }
    }
}
