/** Counts and prints the answers that are not as due. */
final class Check {
    interface Call {
        long run();
    }

    private int wrong = 0;
    private int looked = 0;

    void same(String what, long got, long due) {
        looked++;
        if (got != due) {
            wrong++;
            System.out.println(what + ": got " + got + ", due is " + due);
        }
    }

    void yes(String what, boolean got) {
        same(what, got ? 1 : 0, 1);
    }

    void no(String what, boolean got) {
        same(what, got ? 1 : 0, 0);
    }

    void index(String what, Call call) {
        refused(what, "IndexOutOfBoundsException", call);
    }

    void argument(String what, Call call) {
        refused(what, "IllegalArgumentException", call);
    }

    void state(String what, Call call) {
        refused(what, "IllegalStateException", call);
    }

    private void refused(String what, String due, Call call) {
        looked++;
        String got = outcome(call);
        if (!got.equals(due)) {
            wrong++;
            System.out.println(what + ": got " + got + ", due is " + due);
        }
    }

    /** The answer as a text, or the plain name of what the call throws; the machine's own index exceptions differ. */
    static String outcome(Call call) {
        try {
            return Long.toString(call.run());
        } catch (RuntimeException e) {
            return e.getClass().getSimpleName();
        }
    }

    void end() {
        System.out.println(looked + " answers looked at, " + wrong + " not as due");
        if (wrong != 0) {
            System.exit(1);
        }
    }
}
