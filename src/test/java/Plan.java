import java.util.ArrayList;
import java.util.List;

/**
 * Calls on a new object that lead to the state at which a test looks. An object is good for 512 calls, so it is made
 * anew for each look; and two of them, one with a refused call behind it, can be held against each other.
 */
final class Plan {
    interface Step {
        void on(ZoneController x);
    }

    private final List<Step> steps;
    private List<String> answers;

    private Plan(List<Step> steps) {
        this.steps = steps;
    }

    static Plan nothing() {
        return new Plan(new ArrayList<>());
    }

    /** Zones 0 to last in a line. */
    static Plan line(int last) {
        Plan plan = nothing();
        for (int zone = 0; zone < last; zone++) {
            plan = plan.lane(zone, zone + 1);
        }
        return plan;
    }

    /** Zone 0 in the middle of the zones 1 to last. */
    static Plan star(int last) {
        Plan plan = nothing();
        for (int zone = 1; zone <= last; zone++) {
            plan = plan.lane(0, zone);
        }
        return plan;
    }

    /**
     * Something of each kind: job 0 is done, 1 is given to vehicle 0, 2 is open for vehicle 3, 3 is out of reach;
     * vehicle 0 goes from 1 to 0, 1 from 5 to 3, 2 waits in 9 to go to 5 by 4, 3 is idle in 12; 0 and 6 are chargers.
     */
    static Plan busy() {
        return line(6).lane(2, 8).lane(4, 9).lane(6, 10).lane(10, 12).charger(0).charger(6)
                .vehicle(0, 60).vehicle(6, 50).vehicle(9, 20)
                .job(8).dispatch().tick(3)
                .job(0).dispatch().step(0)
                .assign(1, 3).assign(2, 5).tick(1)
                .job(10).job(15).vehicle(12, 30);
    }

    /**
     * A line of all zones with as many vehicles and jobs as there may be: vehicle 0 in 2 and 1 in 5 have routes, 2 in
     * 8, 3 in 11, 4 in 14 (a charger) and 5 in 18 are idle; job 1 is done, 0 and 18 are given, all others are open.
     */
    static Plan full() {
        Plan plan = line(19).charger(0).charger(14);
        for (int vehicle = 0; vehicle < 6; vehicle++) {
            plan = plan.vehicle(2 + 3 * vehicle, 60 - 5 * vehicle);
        }
        plan = plan.job(3);
        for (int job = 1; job < 20; job++) {
            plan = plan.job(19 - job);
        }
        return plan.dispatch().tick(1).dispatch().dispatch();
    }

    /** The states in which wrong arguments are tried: nothing there yet, something of each kind, all that may be. */
    static Plan[] states() {
        return new Plan[] {nothing(), busy(), full()};
    }

    /** Every pair of zones is joined. */
    static Plan allLanes() {
        return allLanesBut(20, 20);
    }

    /** Every pair of zones is joined but this one, the lower zone first. */
    static Plan allLanesBut(int lower, int higher) {
        Plan plan = nothing();
        for (int one = 0; one < 20; one++) {
            for (int other = one + 1; other < 20; other++) {
                if (one != lower || other != higher) {
                    plan = plan.lane(one, other);
                }
            }
        }
        return plan;
    }

    Plan then(Step step) {
        List<Step> more = new ArrayList<>(steps);
        more.add(step);
        return new Plan(more);
    }

    /** The call is made, and what it answers or throws is passed over. */
    Plan thenTry(Check.Ask call) {
        return then(x -> Check.outcome(() -> call.of(x)));
    }

    Plan lane(int one, int other) {
        return then(x -> x.addLane(one, other));
    }

    Plan charger(int zone) {
        return then(x -> x.setCharger(zone, true));
    }

    Plan noCharger(int zone) {
        return then(x -> x.setCharger(zone, false));
    }

    Plan vehicle(int zone, int energy) {
        return then(x -> x.addVehicle(zone, energy));
    }

    Plan assign(int vehicle, int zone) {
        return then(x -> x.assign(vehicle, zone));
    }

    Plan cancel(int vehicle) {
        return then(x -> x.cancel(vehicle));
    }

    Plan charge(int vehicle) {
        return then(x -> x.charge(vehicle));
    }

    Plan step(int vehicle) {
        return then(x -> x.step(vehicle));
    }

    Plan tick(int ticks) {
        return then(x -> x.tick(ticks));
    }

    Plan job(int zone) {
        return then(x -> x.addJob(zone));
    }

    Plan dispatch() {
        return then(x -> x.dispatch());
    }

    /** How many calls have been made on an object of this plan: each step is one. */
    int calls() {
        return steps.size();
    }

    ZoneController make() {
        ZoneController x = new ZoneController();
        for (Step step : steps) {
            step.on(x);
        }
        return x;
    }

    /** All that an object of this plan answers. */
    List<String> answers() {
        if (answers == null) {
            answers = new Answers(this).all();
        }
        return answers;
    }
}
