import java.util.List;

/** Counts and prints the answers that are not as due. */
final class Check {
    interface Call {
        long run();
    }

    /** A call on an object that a plan makes. */
    interface Ask {
        long of(ZoneController x);
    }

    /** Just below and just above the zones, the least and the greatest int, and some whose low bits name a zone. */
    static final int[] NO_ZONES = {
        -1, 20, Integer.MIN_VALUE, Integer.MAX_VALUE, -2, -20, 21, 32, 256, 65536, Integer.MIN_VALUE + 1
    };

    private static final String INDEX = "IndexOutOfBoundsException";
    private static final String ARGUMENT = "IllegalArgumentException";
    private static final String STATE = "IllegalStateException";

    private int wrong = 0;
    private int looked = 0;

    /** Numbers of no vehicle in an object of this plan. */
    static int[] noVehicles(Plan plan) {
        return beyond(plan.make().vehicles(), 6);
    }

    /** Numbers of no job, if there are so many. */
    static int[] noJobs(int jobs) {
        return beyond(jobs, 20);
    }

    /** Below 0, just above what there is and what there may be, the least and the greatest int, and some like them. */
    private static int[] beyond(int there, int most) {
        return new int[] {
            -1, there, there + 1, most, most + 1, 32, 256, Integer.MIN_VALUE, Integer.MIN_VALUE + 1, Integer.MAX_VALUE
        };
    }

    void same(String what, long got, long due) {
        texts(what, Long.toString(got), Long.toString(due));
    }

    void texts(String what, String got, String due) {
        looked++;
        if (!got.equals(due)) {
            wrong++;
            System.out.println(what + ": got " + got + ", due is " + due);
        }
    }

    void yes(String what, boolean got) {
        same(what, got ? 1 : 0, 1);
    }

    void no(String what, boolean got) {
        same(what, got ? 1 : 0, 0);
    }

    void index(String what, Call call) {
        texts(what, outcome(call), INDEX);
    }

    void argument(String what, Call call) {
        texts(what, outcome(call), ARGUMENT);
    }

    void state(String what, Call call) {
        texts(what, outcome(call), STATE);
    }

    // ---- calls on objects that a plan makes

    void due(String what, Plan plan, long due, Ask ask) {
        ZoneController x = plan.make();
        texts(what, outcome(() -> ask.of(x)), Long.toString(due));
    }

    void refusesIndex(String what, Plan plan, Ask ask) {
        refuses(what, plan, INDEX, ask);
    }

    void refusesArgument(String what, Plan plan, Ask ask) {
        refuses(what, plan, ARGUMENT, ask);
    }

    void refusesState(String what, Plan plan, Ask ask) {
        refuses(what, plan, STATE, ask);
    }

    /** The call throws this exception, and every answer that can be asked afterwards is the one from before. */
    private void refuses(String what, Plan plan, String due, Ask ask) {
        ZoneController x = plan.make();
        texts(what, outcome(() -> ask.of(x)), due);
        changesNothing(what, plan, ask);
    }

    /** Every answer that can be asked behind the call is the one from before. */
    void changesNothing(String what, Plan plan, Ask ask) {
        sameAnswers(what + ", afterwards", plan.thenTry(ask), plan);
    }

    void sameAnswers(String what, Plan got, Plan due) {
        List<String> gotLines = got.answers();
        List<String> dueLines = due.answers();
        same(what + ": answers", gotLines.size(), dueLines.size());
        for (int line = 0; line < gotLines.size() && line < dueLines.size(); line++) {
            if (!gotLines.get(line).equals(dueLines.get(line))) {
                texts(what, gotLines.get(line), dueLines.get(line));
                return;
            }
        }
        looked++;
    }

    /** The answer as a text, or the plain name of what the call throws; the machine's own index exceptions differ. */
    static String outcome(Call call) {
        try {
            return Long.toString(call.run());
        } catch (RuntimeException e) {
            return e.getClass().getSimpleName();
        }
    }

    /** Runs a part of a test; if it throws, that is one wrong answer, and the other parts still run. */
    void part(String what, Runnable part) {
        try {
            part.run();
        } catch (RuntimeException e) {
            wrong++;
            System.out.println(what + ": broken off by " + e);
        }
    }

    void end() {
        System.out.println(looked + " answers looked at, " + wrong + " not as due");
        if (wrong != 0) {
            System.exit(1);
        }
    }
}
