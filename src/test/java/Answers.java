import java.util.ArrayList;
import java.util.List;

/**
 * All that an object of a plan answers: what its questions tell, and what each call would bring about, so that no
 * part of its state stays unseen. Calls that change something are made on objects of their own.
 */
final class Answers {
    private static final int MOST_CALLS = 512;

    private final Plan plan;
    private final List<String> lines = new ArrayList<>();
    private ZoneController x;
    private int calls;

    Answers(Plan plan) {
        this.plan = plan;
    }

    List<String> all() {
        finishers();
        vehiclesAndZones();
        routesAndJobs();
        distances();
        lanesAndChargers();
        newVehicles();
        newJobs();
        assignments();
        callsOnVehicles();
        dispatches();
        ticks();
        return lines;
    }

    private void anew() {
        x = plan.make();
        calls = plan.calls();
    }

    private void ask(String question, Check.Call call) {
        calls++;
        if (calls > MOST_CALLS) {
            throw new IllegalStateException("the test asks an object too much: " + question);
        }
        lines.add(question + " = " + Check.outcome(call));
    }

    /** Each asked by itself: another question in between might put right what a call has left behind. */
    private void finishers() {
        for (int place = -1; place < 7; place++) {
            int p = place;
            anew();
            ask("at once finisher(" + p + ")", () -> x.finisher(p));
        }
        anew();
        ask("at once orders()", () -> x.orders());
    }

    private void vehiclesAndZones() {
        anew();
        lookAtVehicles("");
        for (int zone = 0; zone < 20; zone++) {
            int z = zone;
            ask("vehicleIn(" + z + ")", () -> x.vehicleIn(z));
        }
    }

    private void lookAtVehicles(String when) {
        ask(when + "vehicles()", () -> x.vehicles());
        ask(when + "orders()", () -> x.orders());
        for (int vehicle = 0; vehicle < 7; vehicle++) {
            int v = vehicle;
            ask(when + "finisher(" + v + ")", () -> x.finisher(v));
            ask(when + "zoneOf(" + v + ")", () -> x.zoneOf(v));
            ask(when + "energy(" + v + ")", () -> x.energy(v));
            ask(when + "waited(" + v + ")", () -> x.waited(v));
            ask(when + "routeLength(" + v + ")", () -> x.routeLength(v));
            ask(when + "canStep(" + v + ")", () -> x.canStep(v) ? 1 : 0);
        }
    }

    private void lookAtJobs(String when) {
        for (int job = 0; job < 21; job++) {
            int j = job;
            ask(when + "jobState(" + j + ")", () -> x.jobState(j));
            ask(when + "jobVehicle(" + j + ")", () -> x.jobVehicle(j));
            ask(when + "regret(" + j + ")", () -> x.regret(j));
        }
    }

    private void routesAndJobs() {
        anew();
        for (int vehicle = 0; vehicle < 6; vehicle++) {
            for (int place = 0; place < 20; place++) {
                int v = vehicle;
                int p = place;
                ask("routeZone(" + v + ", " + p + ")", () -> x.routeZone(v, p));
            }
        }
        lookAtJobs("");
    }

    private void distances() {
        for (int one = 0; one < 20; one++) {
            if (one % 10 == 0) anew();
            for (int other = 0; other < 20; other++) {
                int from = one;
                int to = other;
                ask("distance(" + from + ", " + to + ")", () -> x.distance(from, to));
            }
        }
    }

    /** A lane that is there is refused, and the first one that is not tells how many there were. */
    private void lanesAndChargers() {
        anew();
        for (int one = 0; one < 20; one++) {
            int z = one;
            ask("setCharger(" + z + ")", () -> x.setCharger(z, true) ? 1 : 0);
            for (int other = one + 1; other < 20; other++) {
                int o = other;
                ask("addLane(" + z + ", " + o + ")", () -> x.addLane(z, o));
            }
        }
    }

    private void newVehicles() {
        for (int zone = 0; zone < 20; zone++) {
            anew();
            int z = zone;
            ask("addVehicle(" + z + ", 60)", () -> x.addVehicle(z, 60));
            for (int vehicle = 0; vehicle < 6; vehicle++) {
                int v = vehicle;
                ask("behind it energy(" + v + ")", () -> x.energy(v));
            }
        }
    }

    private void newJobs() {
        anew();
        for (int job = 0; job < 21; job++) {
            int z = job % 20;
            ask("addJob(" + z + ")", () -> x.addJob(z));
        }
        lookAtJobs("behind these ");
    }

    /** A route that could be given can be taken away again: the plant was safe without it. */
    private void assignments() {
        anew();
        int vehicles = x.vehicles();
        for (int vehicle = 0; vehicle < vehicles; vehicle++) {
            for (int zone = 0; zone < 20; zone++) {
                int v = vehicle;
                int z = zone;
                ask("assign(" + v + ", " + z + ")", () -> x.assign(v, z));
                if (!lines.get(lines.size() - 1).endsWith("Exception")) {
                    ask("cancel(" + v + ")", () -> x.cancel(v));
                }
            }
        }
    }

    private void callsOnVehicles() {
        for (int vehicle = 0; vehicle < 6; vehicle++) {
            int v = vehicle;
            anew();
            ask("step(" + v + ")", () -> x.step(v));
            anew();
            ask("cancel(" + v + ")", () -> x.cancel(v));
            lookAtJobs("behind it ");
            anew();
            ask("charge(" + v + ")", () -> x.charge(v));
        }
    }

    private void dispatches() {
        anew();
        for (int times = 0; times < 7; times++) {
            ask("dispatch()", () -> x.dispatch());
        }
        lookAtJobs("behind dispatches ");
    }

    private void ticks() {
        for (int ticks = 1; ticks <= 20; ticks += 19) {
            int t = ticks;
            anew();
            ask("tick(" + t + ")", () -> x.tick(t));
            lookAtVehicles("behind ticks ");
            lookAtJobs("behind ticks ");
        }
    }
}
