import java.util.Random;

/**
 * Runs of calls, drawn with fixed seeds, on a ZoneController and on a SlowController: both have to answer the same.
 * Behind every call that may change something the test looks at one vehicle, zone and job, at the end at all.
 */
public final class RandomRunsTest {
    private static final int RUNS = 1500;
    /** An object is used for at most 512 calls; the looks at the end need the rest of them. */
    private static final int MOST_CALLS_DRAWN = 300;
    private static final int MOST_CALLS = 512;

    private final Random random;
    private final ZoneController x = new ZoneController();
    private final SlowController slow = new SlowController();
    private final StringBuilder told = new StringBuilder();
    private int calls = 0;
    private boolean agrees = true;

    private RandomRunsTest(long seed) {
        random = new Random(seed);
    }

    public static void main(String[] args) {
        int wrong = 0;
        int calls = 0;
        for (int run = 0; run < RUNS; run++) {
            RandomRunsTest test = new RandomRunsTest(run);
            test.run(run % 7);
            calls += test.calls;
            if (!test.agrees) {
                wrong++;
                System.out.println("run " + run + ":\n" + test.told);
            }
        }
        System.out.println(RUNS + " runs, " + calls + " calls, " + wrong + " runs with a wrong answer");
        if (wrong != 0) {
            System.exit(1);
        }
    }

    private void run(int layout) {
        lay(layout);
        while (agrees && calls < MOST_CALLS_DRAWN) {
            drawCall();
        }
        lookAtAll();
    }

    private void look(String call, Check.Call fast, Check.Call right) {
        if (!agrees || calls >= MOST_CALLS) {
            return;
        }
        calls++;
        String got = Check.outcome(fast);
        String due = Check.outcome(right);
        told.append("  ").append(call).append(" = ").append(got);
        if (!got.equals(due)) {
            agrees = false;
            told.append(", due is ").append(due);
        }
        told.append('\n');
    }

    // ---- plants

    private void lane(int one, int other) {
        look("addLane(" + one + ", " + other + ")", () -> x.addLane(one, other), () -> slow.addLane(one, other));
    }

    private void lay(int layout) {
        int zones = 5 + random.nextInt(16);
        for (int zone = 1; zone < zones && layout != 6; zone++) {
            if (layout == 0) lane(zone - 1, zone);
            else if (layout == 1) lane(zone - 1, zone == zones - 1 ? 0 : zone);
            else if (layout == 2) lane(zone, 0);
            else if (layout == 3) lane(zone, random.nextInt(zone));
            else if (layout == 4) grid(zone, 4);
            else grid(zone, 2);
        }
        int more = layout == 6 ? 25 : layout == 3 ? 6 : random.nextInt(3);
        for (int lane = 0; lane < more; lane++) {
            lane(random.nextInt(zones), random.nextInt(zones));
        }
    }

    private void grid(int zone, int width) {
        if (zone % width != 0) lane(zone - 1, zone);
        if (zone >= width) lane(zone, zone - width);
    }

    // ---- arguments, seldom wrong ones

    private boolean seldom() {
        return random.nextInt(40) == 0;
    }

    private int someZone() {
        return seldom() ? random.nextInt(24) - 2 : random.nextInt(20);
    }

    private int someVehicle() {
        return seldom() ? random.nextInt(9) - 1 : random.nextInt(Math.max(1, slow.vehicles()));
    }

    private int someJob() {
        return random.nextInt(22) - 1;
    }

    // ---- calls

    private void drawCall() {
        int draw = random.nextInt(100);
        if (draw < 9) drawVehicle();
        else if (draw < 42) drawAssign();
        else if (draw < 46) drawCancel();
        else if (draw < 50) drawCharge();
        else if (draw < 68) drawStep();
        else if (draw < 74) drawTick();
        else if (draw < 80) drawJob();
        else if (draw < 90) look("dispatch()", x::dispatch, slow::dispatch);
        else if (draw < 92) drawCharger();
        else if (draw < 93) lane(someZone(), someZone());
        else lookAtOrders();
        lookAtSome();
    }

    private void drawVehicle() {
        int zone = someZone();
        int energy = seldom() ? random.nextInt(80) - 10 : random.nextInt(3) == 0 ? random.nextInt(20) : 60;
        String call = "addVehicle(" + zone + ", " + energy + ")";
        look(call, () -> x.addVehicle(zone, energy), () -> slow.addVehicle(zone, energy));
    }

    private void drawAssign() {
        int vehicle = someVehicle();
        int zone = someZone();
        String call = "assign(" + vehicle + ", " + zone + ")";
        look(call, () -> x.assign(vehicle, zone), () -> slow.assign(vehicle, zone));
    }

    private void drawCancel() {
        int vehicle = someVehicle();
        look("cancel(" + vehicle + ")", () -> x.cancel(vehicle), () -> slow.cancel(vehicle));
    }

    private void drawCharge() {
        int vehicle = someVehicle();
        look("charge(" + vehicle + ")", () -> x.charge(vehicle), () -> slow.charge(vehicle));
    }

    private void drawStep() {
        int vehicle = someVehicle();
        String asked = "canStep(" + vehicle + ")";
        look(asked, () -> x.canStep(vehicle) ? 1 : 0, () -> slow.canStep(vehicle) ? 1 : 0);
        look("step(" + vehicle + ")", () -> x.step(vehicle), () -> slow.step(vehicle));
    }

    private void drawTick() {
        int ticks = seldom() ? random.nextInt(30) - 5 : 1 + random.nextInt(random.nextInt(4) == 0 ? 20 : 3);
        look("tick(" + ticks + ")", () -> x.tick(ticks), () -> slow.tick(ticks));
    }

    private void drawJob() {
        int zone = someZone();
        look("addJob(" + zone + ")", () -> x.addJob(zone), () -> slow.addJob(zone));
    }

    private void drawCharger() {
        int zone = someZone();
        boolean is = random.nextBoolean();
        String call = "setCharger(" + zone + ", " + is + ")";
        look(call, () -> x.setCharger(zone, is) ? 1 : 0, () -> slow.setCharger(zone, is) ? 1 : 0);
    }

    // ---- looks

    private void lookAtOrders() {
        if (random.nextBoolean()) {
            look("orders()", x::orders, slow::orders);
            return;
        }
        int place = random.nextInt(random.nextInt(3) == 0 ? 8 : 2) - (seldom() ? 1 : 0);
        look("finisher(" + place + ")", () -> x.finisher(place), () -> slow.finisher(place));
    }

    private void lookAtSome() {
        int what = random.nextInt(10);
        if (what == 0) lookAtVehicle(someVehicle());
        else if (what == 1) lookAtJob(someJob());
        else if (what == 2) lookAtZone(someZone(), someZone());
        else if (what == 3) lookAtRoute(someVehicle(), random.nextInt(8) - 1);
        else if (what == 4) lookAtOrders();
    }

    private void lookAtVehicle(int vehicle) {
        look("zoneOf(" + vehicle + ")", () -> x.zoneOf(vehicle), () -> slow.zoneOf(vehicle));
        look("energy(" + vehicle + ")", () -> x.energy(vehicle), () -> slow.energy(vehicle));
        look("waited(" + vehicle + ")", () -> x.waited(vehicle), () -> slow.waited(vehicle));
        look("routeLength(" + vehicle + ")", () -> x.routeLength(vehicle), () -> slow.routeLength(vehicle));
    }

    private void lookAtRoute(int vehicle, int place) {
        String call = "routeZone(" + vehicle + ", " + place + ")";
        look(call, () -> x.routeZone(vehicle, place), () -> slow.routeZone(vehicle, place));
    }

    private void lookAtJob(int job) {
        look("jobState(" + job + ")", () -> x.jobState(job), () -> slow.jobState(job));
        look("jobVehicle(" + job + ")", () -> x.jobVehicle(job), () -> slow.jobVehicle(job));
        look("regret(" + job + ")", () -> x.regret(job), () -> slow.regret(job));
    }

    private void lookAtZone(int zone, int other) {
        look("vehicleIn(" + zone + ")", () -> x.vehicleIn(zone), () -> slow.vehicleIn(zone));
        look("distance(" + zone + ", " + other + ")", () -> x.distance(zone, other), () -> slow.distance(zone, other));
    }

    private void lookAtAll() {
        look("vehicles()", x::vehicles, slow::vehicles);
        look("orders()", x::orders, slow::orders);
        for (int vehicle = 0; vehicle < 6; vehicle++) {
            int place = vehicle;
            look("finisher(" + place + ")", () -> x.finisher(place), () -> slow.finisher(place));
            lookAtVehicle(vehicle);
            for (int zone = 0; zone < 5; zone++) {
                lookAtRoute(vehicle, zone);
            }
        }
        for (int zone = 0; zone < 20; zone++) {
            lookAtJob(zone);
            lookAtZone(zone, 19 - zone);
        }
    }
}
