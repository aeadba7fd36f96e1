/** Each promise of the document by itself: ordinary inputs, the edges that the document names, and wrong inputs. */
public final class PromisesTest {
    private static final int NONE = ZoneController.NONE;
    private static final int OPEN = ZoneController.OPEN;
    private static final int GIVEN = ZoneController.GIVEN;
    private static final int DONE = ZoneController.DONE;
    private static final int[] NO_ZONES = {-1, 20, 21, Integer.MIN_VALUE, Integer.MAX_VALUE};

    private static final Check check = new Check();

    public static void main(String[] args) {
        constants();
        promise1NewObject();
        promise2AddLane();
        promise3SetCharger();
        promise4Distance();
        promise5AddVehicle();
        promise5AddVehicleUnsafe();
        promise6AssignWays();
        promise6AssignEnergy();
        promise6AssignSafe();
        promise6AssignWrong();
        promise7Cancel();
        promise7CancelJob();
        promise8Charge();
        promise9CanStep();
        promise10Step();
        promise10StepJob();
        promise11Tick();
        promise12AddJob();
        promise13Dispatch();
        promise13DispatchTies();
        promise13DispatchCanTake();
        promise14JobState();
        promise15JobVehicle();
        promise16Regret();
        promise17Vehicles();
        promise18ZoneOf();
        promise19VehicleIn();
        promise20RouteLength();
        promise21RouteZone();
        promise22Energy();
        promise23Waited();
        promise24Orders();
        promise25Finisher();
        check.end();
    }

    // ---- plants

    /** Zones from 0 to last in a line. */
    private static ZoneController line(int last) {
        ZoneController x = new ZoneController();
        for (int zone = 0; zone < last; zone++) {
            x.addLane(zone, zone + 1);
        }
        return x;
    }

    /** Zone 0 in the middle of the zones 1 to last. */
    private static ZoneController star(int last) {
        ZoneController x = new ZoneController();
        for (int zone = 1; zone <= last; zone++) {
            x.addLane(zone, 0);
        }
        return x;
    }

    /** A line 0 to 4 with a siding 8 at zone 2; vehicle 0 in 0, vehicle 1 in 4. */
    private static ZoneController siding() {
        ZoneController x = line(4);
        x.addLane(2, 8);
        x.addVehicle(0, 60);
        x.addVehicle(4, 60);
        return x;
    }

    private static void route(String what, ZoneController x, int vehicle, int... zones) {
        check.same(what + ": length", x.routeLength(vehicle), zones.length);
        for (int place = 0; place < zones.length && place < x.routeLength(vehicle); place++) {
            check.same(what + ": place " + place, x.routeZone(vehicle, place), zones[place]);
        }
    }

    private static void order(String what, ZoneController x, int... vehicles) {
        for (int place = 0; place < vehicles.length; place++) {
            check.same(what + ": place " + place, x.finisher(place), vehicles[place]);
        }
        check.argument(what + ": behind the last place", () -> x.finisher(vehicles.length));
    }

    // ---- promises

    private static void constants() {
        check.same("NONE", NONE, -1);
        check.same("OPEN", OPEN, 0);
        check.same("GIVEN", GIVEN, 1);
        check.same("DONE", DONE, 2);
    }

    private static void promise1NewObject() {
        ZoneController x = new ZoneController();
        check.same("1 no vehicles", x.vehicles(), 0);
        check.same("1 orders", x.orders(), 1);
        check.same("1 dispatch", x.dispatch(), NONE);
        check.same("1 tick", x.tick(20), 0);
        for (int one = 0; one < 20; one++) {
            check.same("1 vehicleIn " + one, x.vehicleIn(one), NONE);
            check.no("1 charger " + one, x.setCharger(one, false));
            for (int other = 0; other < 20; other++) {
                check.same("1 distance " + one + " " + other, x.distance(one, other), one == other ? 0 : NONE);
            }
        }
        check.index("1 no vehicle", () -> x.zoneOf(0));
        check.index("1 no job", () -> x.jobState(0));
        check.argument("1 no finisher", () -> x.finisher(0));
        ZoneController first = line(3);
        first.addVehicle(0, 5);
        first.addJob(2);
        ZoneController second = new ZoneController();
        check.same("1 objects share no lanes", second.addLane(0, 1), 1);
        check.same("1 objects share no vehicles", second.vehicles(), 0);
        check.same("1 objects share no jobs", second.addJob(1), 0);
    }

    private static void promise2AddLane() {
        ZoneController x = new ZoneController();
        check.same("2 first", x.addLane(0, 19), 1);
        check.same("2 second", x.addLane(19, 7), 2);
        check.same("2 both ways", x.distance(19, 0), 1);
        check.state("2 again", () -> x.addLane(0, 19));
        check.state("2 the other way round", () -> x.addLane(19, 0));
        for (int zone = 0; zone < 20; zone++) {
            int same = zone;
            check.argument("2 same " + zone, () -> x.addLane(same, same));
        }
        for (int zone : NO_ZONES) {
            check.argument("2 one " + zone, () -> x.addLane(zone, 3));
            check.argument("2 other " + zone, () -> x.addLane(3, zone));
            check.argument("2 both " + zone, () -> x.addLane(zone, zone));
        }
        check.same("2 what throws lays nothing", x.addLane(1, 2), 3);
        check.same("2 a way of two lanes is no lane", x.addLane(0, 7), 4);
        ZoneController full = new ZoneController();
        int lanes = 0;
        for (int one = 0; one < 20; one++) {
            for (int other = one + 1; other < 20; other++) {
                lanes++;
                check.same("2 lane " + lanes, full.addLane(other, one), lanes);
            }
        }
        check.same("2 all", lanes, 190);
        check.state("2 no more", () -> full.addLane(4, 5));
    }

    private static void promise3SetCharger() {
        ZoneController x = line(3);
        check.no("3 at first", x.setCharger(19, true));
        check.yes("3 then", x.setCharger(19, true));
        check.no("3 another", x.setCharger(0, true));
        check.yes("3 not any more", x.setCharger(19, false));
        check.no("3 it was none", x.setCharger(19, false));
        check.yes("3 the other stays", x.setCharger(0, true));
        for (int zone : NO_ZONES) {
            check.argument("3 " + zone, () -> x.setCharger(zone, true) ? 1 : 0);
        }
        x.addVehicle(0, 10);
        check.same("3 it charges", x.charge(0), 50);
        x.setCharger(0, false);
        check.state("3 it does not charge any more", () -> x.charge(0));
    }

    private static void promise4Distance() {
        ZoneController x = line(19);
        for (int one = 0; one < 20; one++) {
            for (int other = 0; other < 20; other++) {
                check.same("4 line " + one + " " + other, x.distance(one, other), Math.abs(one - other));
            }
        }
        x.addLane(0, 19);
        for (int one = 0; one < 20; one++) {
            for (int other = 0; other < 20; other++) {
                int way = Math.abs(one - other);
                check.same("4 ring " + one + " " + other, x.distance(one, other), Math.min(way, 20 - way));
            }
        }
        x.addVehicle(5, 3);
        check.same("4 vehicles are not in the way", x.distance(4, 6), 2);
        ZoneController parts = new ZoneController();
        parts.addLane(0, 1);
        parts.addLane(2, 3);
        check.same("4 no way", parts.distance(0, 3), NONE);
        check.same("4 no way back", parts.distance(3, 0), NONE);
        parts.addLane(1, 2);
        check.same("4 joined", parts.distance(0, 3), 3);
        check.same("4 still none", parts.distance(0, 19), NONE);
        for (int zone : NO_ZONES) {
            check.argument("4 one " + zone, () -> parts.distance(zone, 0));
            check.argument("4 other " + zone, () -> parts.distance(0, zone));
            check.argument("4 both " + zone, () -> parts.distance(zone, zone));
        }
    }

    private static void promise5AddVehicle() {
        ZoneController x = new ZoneController();
        check.argument("5 energy -1", () -> x.addVehicle(0, -1));
        check.argument("5 energy 61", () -> x.addVehicle(0, 61));
        for (int zone : NO_ZONES) {
            check.argument("5 zone " + zone, () -> x.addVehicle(zone, 5));
        }
        check.same("5 first", x.addVehicle(0, 0), 0);
        check.same("5 second", x.addVehicle(19, 60), 1);
        check.same("5 energy 0", x.energy(0), 0);
        check.same("5 energy 60", x.energy(1), 60);
        check.state("5 one is there", () -> x.addVehicle(19, 60));
        check.argument("5 energy comes first", () -> x.addVehicle(19, 61));
        for (int vehicle = 2; vehicle < 6; vehicle++) {
            check.same("5 number", x.addVehicle(vehicle, vehicle), vehicle);
        }
        check.same("5 six", x.vehicles(), 6);
        check.state("5 a seventh", () -> x.addVehicle(10, 5));
        check.argument("5 a seventh, no zone", () -> x.addVehicle(20, 5));
        check.argument("5 a seventh, no energy", () -> x.addVehicle(10, -5));
        for (int vehicle = 0; vehicle < 6; vehicle++) {
            check.same("5 idle", x.routeLength(vehicle), 0);
            check.same("5 has not waited", x.waited(vehicle), 0);
        }
    }

    private static void promise5AddVehicleUnsafe() {
        ZoneController x = line(5);
        x.addVehicle(0, 60);
        x.assign(0, 3);
        check.state("5 on the route", () -> x.addVehicle(1, 5));
        check.state("5 at the end of the route", () -> x.addVehicle(3, 5));
        check.same("5 behind the route", x.addVehicle(4, 5), 1);
        x.step(0);
        check.same("5 where it was", x.addVehicle(0, 5), 2);
        check.state("5 where it is", () -> x.addVehicle(1, 5));
        check.same("5 what throws brings nothing", x.vehicles(), 3);
        check.same("5 and stands in no way", x.orders(), 1);
        order("5 and changes no order", x, 0);
    }

    private static void promise6AssignWays() {
        ZoneController x = new ZoneController();
        int[][] lanes = {{0, 9}, {0, 2}, {0, 5}, {9, 10}, {2, 8}, {2, 7}, {5, 6}, {10, 11}, {8, 11}, {7, 11}, {6, 11}};
        for (int[] lane : lanes) {
            x.addLane(lane[0], lane[1]);
        }
        x.addVehicle(0, 60);
        check.same("6 length", x.assign(0, 11), 3);
        route("6 lowest at the first difference", x, 0, 2, 7, 11);
        x.tick(3);
        check.same("6 back", x.assign(0, 0), 3);
        route("6 lowest back, by its own first zones", x, 0, 6, 5, 0);
        x.cancel(0);
        x.addLane(11, 0);
        x.assign(0, 0);
        route("6 fewest lanes come before low zones", x, 0, 0);
        x.cancel(0);
        check.same("6 a route can be given again", x.assign(0, 0), 1);
        ZoneController kept = line(4);
        kept.addVehicle(0, 60);
        kept.assign(0, 4);
        kept.addLane(0, 4);
        route("6 a route stays when lanes come", kept, 0, 1, 2, 3, 4);
        ZoneController over = line(3);
        over.addLane(0, 4);
        over.addLane(4, 5);
        over.addLane(5, 3);
        over.addVehicle(0, 60);
        over.addVehicle(1, 60);
        check.state("6 vehicles on the way do not change it", () -> over.assign(0, 3));
    }

    private static void promise6AssignEnergy() {
        ZoneController x = line(6);
        x.addVehicle(2, 3);
        check.same("6 no charger: as the lanes", x.assign(0, 5), 3);
        x.cancel(0);
        check.state("6 no charger: one less", () -> x.assign(0, 6));
        x.setCharger(1, true);
        check.same("6 to the charger itself", x.assign(0, 1), 1);
        x.cancel(0);
        check.state("6 a charger behind: 1 and 2", () -> x.assign(0, 4));
        check.state("6 a charger behind: 3", () -> x.assign(0, 5));
        check.same("6 a charger behind: 1 and 2, as much as it has", x.assign(0, 3), 1);
        x.cancel(0);
        x.setCharger(5, true);
        check.same("6 the nearest charger counts", x.assign(0, 4), 2);
        x.cancel(0);
        x.setCharger(1, false);
        x.setCharger(5, false);
        x.setCharger(15, true);
        check.same("6 a charger that can't be reached does not count", x.assign(0, 5), 3);
        x.setCharger(15, false);
        x.cancel(0);
        x.setCharger(0, true);
        check.state("6 a charger in zone 0", () -> x.assign(0, 3));
        check.same("6 to zone 0", x.assign(0, 0), 2);
        ZoneController last = line(19);
        last.addVehicle(17, 2);
        last.setCharger(19, true);
        check.state("6 a charger in zone 19", () -> last.assign(0, 16));
        check.same("6 towards zone 19", last.assign(0, 18), 1);
        ZoneController empty = line(2);
        empty.addVehicle(0, 0);
        check.state("6 energy 0", () -> empty.assign(0, 1));
        ZoneController long19 = line(19);
        long19.addVehicle(0, 60);
        check.same("6 the longest way", long19.assign(0, 19), 19);
    }

    private static void promise6AssignSafe() {
        ZoneController x = siding();
        check.state("6 through one that is idle", () -> x.assign(0, 4));
        check.same("6 to the siding", x.assign(0, 8), 3);
        check.same("6 past the siding, behind it", x.assign(1, 0), 4);
        order("6 siding", x, 0, 1);
        ZoneController headOn = line(3);
        headOn.addVehicle(0, 60);
        headOn.addVehicle(3, 60);
        headOn.assign(0, 2);
        check.state("6 head on", () -> headOn.assign(1, 1));
        check.same("6 what throws gives no route", headOn.routeLength(1), 0);
        ZoneController behind = line(4);
        behind.addVehicle(0, 60);
        behind.addVehicle(1, 60);
        behind.assign(1, 4);
        check.same("6 behind another", behind.assign(0, 3), 3);
        ZoneController far = line(4);
        far.addVehicle(0, 60);
        far.addVehicle(1, 60);
        far.assign(1, 3);
        check.state("6 one behind would have to stop on its end", () -> far.assign(0, 3));
    }

    private static void promise6AssignWrong() {
        ZoneController x = line(3);
        x.addVehicle(0, 60);
        check.index("6 vehicle -1", () -> x.assign(-1, 1));
        check.index("6 vehicle 1", () -> x.assign(1, 1));
        check.index("6 the vehicle comes first", () -> x.assign(6, 20));
        for (int zone : NO_ZONES) {
            check.argument("6 zone " + zone, () -> x.assign(0, zone));
        }
        check.state("6 it is there", () -> x.assign(0, 0));
        check.state("6 no way", () -> x.assign(0, 4));
        x.assign(0, 2);
        check.state("6 not idle", () -> x.assign(0, 3));
        check.argument("6 not idle, no zone", () -> x.assign(0, -1));
        route("6 the route stays", x, 0, 1, 2);
        x.tick(2);
        check.same("6 idle again", x.assign(0, 3), 1);
    }

    private static void promise7Cancel() {
        ZoneController x = line(4);
        x.addVehicle(0, 60);
        check.state("7 idle", () -> x.cancel(0));
        check.index("7 vehicle 1", () -> x.cancel(1));
        check.index("7 vehicle -1", () -> x.cancel(-1));
        x.assign(0, 4);
        x.step(0);
        check.same("7 what was left", x.cancel(0), 3);
        check.same("7 idle then", x.routeLength(0), 0);
        check.same("7 it stays where it is", x.zoneOf(0), 1);
        check.same("7 its energy too", x.energy(0), 59);
        check.state("7 only once", () -> x.cancel(0));
        check.argument("7 no route", () -> x.routeZone(0, 0));
        ZoneController blocked = line(4);
        blocked.addVehicle(0, 60);
        blocked.addVehicle(1, 60);
        blocked.assign(1, 4);
        blocked.assign(0, 2);
        check.state("7 it would stand in the way", () -> blocked.cancel(1));
        route("7 the route stays", blocked, 1, 2, 3, 4);
        check.same("7 the one behind may", blocked.cancel(0), 2);
        check.same("7 then the other may", blocked.cancel(1), 3);
    }

    private static void promise7CancelJob() {
        ZoneController x = siding();
        x.addJob(8);
        x.addJob(3);
        check.same("7 dispatched", x.dispatch(), 1);
        check.same("7 dispatched too", x.dispatch(), 0);
        check.same("7 left", x.cancel(0), 3);
        check.same("7 open again", x.jobState(0), OPEN);
        check.same("7 without a vehicle", x.jobVehicle(0), NONE);
        check.same("7 the other job is not touched", x.jobState(1), GIVEN);
        x.assign(0, 1);
        check.same("7 the job is not its own any more", x.cancel(0), 1);
        x.assign(0, 1);
        x.tick(1);
        check.same("7 so it is not done by another route", x.jobState(0), OPEN);
        check.same("7 it is given anew", x.dispatch(), 0);
        check.same("7 to the vehicle", x.jobVehicle(0), 0);
        x.tick(5);
        check.same("7 done", x.jobState(0), DONE);
        x.assign(0, 2);
        x.cancel(0);
        check.same("7 a job that is done stays so", x.jobState(0), DONE);
        check.same("7 and who did it", x.jobVehicle(0), 0);
    }

    private static void promise8Charge() {
        ZoneController x = line(3);
        x.setCharger(1, true);
        x.addVehicle(0, 5);
        check.index("8 vehicle 1", () -> x.charge(1));
        check.index("8 vehicle -1", () -> x.charge(-1));
        check.state("8 not in a charger", () -> x.charge(0));
        x.assign(0, 2);
        x.step(0);
        check.state("8 not idle", () -> x.charge(0));
        check.same("8 what throws charges nothing", x.energy(0), 4);
        x.cancel(0);
        check.same("8 what was charged", x.charge(0), 56);
        check.same("8 full", x.energy(0), 60);
        check.same("8 nothing missing", x.charge(0), 0);
        x.setCharger(1, false);
        check.state("8 no charger any more", () -> x.charge(0));
    }

    private static void promise9CanStep() {
        ZoneController x = line(4);
        x.addVehicle(0, 60);
        x.addVehicle(1, 60);
        check.no("9 no route", x.canStep(0));
        check.index("9 vehicle 2", () -> x.canStep(2) ? 1 : 0);
        check.index("9 vehicle -1", () -> x.canStep(-1) ? 1 : 0);
        x.assign(1, 3);
        x.assign(0, 2);
        check.yes("9 free", x.canStep(1));
        check.no("9 a vehicle is there", x.canStep(0));
        x.step(1);
        check.yes("9 free then", x.canStep(0));
        check.same("9 it only asks", x.zoneOf(0), 0);
        ZoneController meet = siding();
        meet.assign(0, 8);
        meet.assign(1, 0);
        check.yes("9 to the siding, first", meet.canStep(0));
        check.yes("9 to 3, still safe", meet.canStep(1));
        meet.step(1);
        check.no("9 into zone 2: the siding could not be reached", meet.canStep(1));
        meet.step(0);
        check.no("9 into zone 2 neither now", meet.canStep(1));
        check.yes("9 the other one may", meet.canStep(0));
        meet.step(0);
        meet.step(0);
        check.no("9 idle at the end", meet.canStep(0));
        check.yes("9 then the way is free", meet.canStep(1));
    }

    private static void promise10Step() {
        ZoneController x = line(3);
        x.addVehicle(0, 2);
        check.state("10 no route", () -> x.step(0));
        check.index("10 vehicle 1", () -> x.step(1));
        check.index("10 vehicle -1", () -> x.step(-1));
        x.assign(0, 2);
        check.same("10 to 1", x.step(0), 1);
        check.same("10 takes energy", x.energy(0), 1);
        route("10 one less", x, 0, 2);
        check.same("10 where it is", x.vehicleIn(1), 0);
        check.same("10 not where it was", x.vehicleIn(0), NONE);
        check.same("10 to 2", x.step(0), 2);
        check.same("10 down to 0", x.energy(0), 0);
        check.same("10 idle", x.routeLength(0), 0);
        check.state("10 idle", () -> x.step(0));
        check.same("10 no wait by step", x.waited(0), 0);
        ZoneController meet = siding();
        meet.assign(0, 8);
        meet.assign(1, 0);
        meet.step(1);
        check.state("10 not safe", () -> meet.step(1));
        check.same("10 what throws moves nothing", meet.zoneOf(1), 3);
        check.same("10 and takes nothing", meet.energy(1), 59);
        check.same("10 and is no wait", meet.waited(1), 0);
    }

    private static void promise10StepJob() {
        ZoneController x = line(4);
        x.addVehicle(0, 60);
        x.addJob(2);
        x.assign(0, 2);
        x.step(0);
        x.step(0);
        check.same("10 a job of nobody is not done", x.jobState(0), OPEN);
        x.assign(0, 3);
        x.step(0);
        x.dispatch();
        check.same("10 given", x.jobState(0), GIVEN);
        x.step(0);
        check.same("10 done", x.jobState(0), DONE);
        check.same("10 by it", x.jobVehicle(0), 0);
        x.addJob(0);
        x.dispatch();
        x.step(0);
        check.same("10 not before its end", x.jobState(1), GIVEN);
        x.step(0);
        check.same("10 at its end", x.jobState(1), DONE);
    }

    private static void promise11Tick() {
        ZoneController x = line(6);
        for (int ticks : new int[] {0, -1, 21, Integer.MIN_VALUE, Integer.MAX_VALUE}) {
            check.argument("11 " + ticks, () -> x.tick(ticks));
        }
        x.addVehicle(0, 60);
        x.addVehicle(1, 60);
        x.addVehicle(6, 60);
        check.same("11 all idle", x.tick(20), 0);
        x.assign(1, 4);
        x.assign(0, 3);
        check.same("11 the lower one is asked first, and waits", x.tick(1), 1);
        check.same("11 zone of 0", x.zoneOf(0), 0);
        check.same("11 zone of 1", x.zoneOf(1), 2);
        check.same("11 waited", x.waited(0), 1);
        check.same("11 both step", x.tick(1), 2);
        check.same("11 to the ends", x.tick(20), 3);
        check.same("11 idle ones do not wait", x.waited(1), 0);
        check.same("11 waited once in all", x.waited(0), 1);
        check.same("11 never with a route", x.waited(2), 0);
        x.assign(0, 0);
        x.assign(1, 2);
        check.same("11 the lower one makes room in the same tick", x.tick(1), 2);
        ZoneController meet = siding();
        meet.assign(0, 8);
        meet.assign(1, 0);
        check.same("11 past each other", meet.tick(20), 7);
        check.same("11 at the siding", meet.zoneOf(0), 8);
        check.same("11 at the other end", meet.zoneOf(1), 0);
        check.same("11 it waited in front of the siding", meet.waited(1), 1);
        ZoneController six = new ZoneController();
        for (int vehicle = 0; vehicle < 6; vehicle++) {
            six.addLane(vehicle, vehicle + 6);
            six.addLane(vehicle + 6, vehicle + 12);
            six.addVehicle(vehicle, 60);
            six.assign(vehicle, vehicle + 12);
        }
        check.same("11 six at once", six.tick(1), 6);
        check.same("11 six to their ends", six.tick(2), 6);
    }

    private static void promise12AddJob() {
        ZoneController x = new ZoneController();
        for (int zone : NO_ZONES) {
            check.argument("12 " + zone, () -> x.addJob(zone));
        }
        for (int job = 0; job < 20; job++) {
            check.same("12 number", x.addJob(job), job);
            check.same("12 open", x.jobState(job), OPEN);
            check.same("12 no vehicle", x.jobVehicle(job), NONE);
        }
        check.state("12 a twenty-first", () -> x.addJob(0));
        check.argument("12 the zone comes first", () -> x.addJob(20));
        ZoneController same = line(2);
        same.addVehicle(0, 60);
        same.addVehicle(1, 60);
        check.same("12 in one zone", same.addJob(2), 0);
        check.same("12 two jobs", same.addJob(2), 1);
        same.dispatch();
        same.tick(5);
        check.same("12 one is done", same.jobState(0), DONE);
        check.same("12 one is not", same.jobState(1), OPEN);
    }

    private static void promise13Dispatch() {
        ZoneController x = line(9);
        check.same("13 no job", x.dispatch(), NONE);
        x.addVehicle(0, 60);
        x.addVehicle(9, 60);
        check.same("13 still no job", x.dispatch(), NONE);
        x.addJob(4);
        x.addJob(7);
        x.addJob(1);
        check.same("13 regret 1", x.regret(0), 1);
        check.same("13 regret 5", x.regret(1), 5);
        check.same("13 regret 7", x.regret(2), 7);
        check.same("13 the greatest", x.dispatch(), 2);
        check.same("13 to the nearest", x.jobVehicle(2), 0);
        check.same("13 state", x.jobState(2), GIVEN);
        route("13 route", x, 0, 1);
        check.same("13 now one vehicle for both: the lowest job", x.regret(0), 1000);
        check.same("13 the lowest", x.dispatch(), 0);
        check.same("13 the other vehicle", x.jobVehicle(0), 1);
        route("13 its route", x, 1, 8, 7, 6, 5, 4);
        check.same("13 no idle vehicle", x.dispatch(), NONE);
        x.tick(10);
        check.same("13 the last one", x.dispatch(), 1);
        check.same("13 by distance now", x.jobVehicle(1), 1);
        x.tick(10);
        check.same("13 all done", x.dispatch(), NONE);
        for (int job = 0; job < 3; job++) {
            check.same("13 a job that is done is not given", x.jobState(job), DONE);
        }
    }

    private static void promise13DispatchTies() {
        ZoneController x = star(6);
        x.addVehicle(1, 60);
        x.addVehicle(2, 60);
        x.addVehicle(3, 60);
        x.addJob(5);
        x.addJob(6);
        check.same("13 regret 0", x.regret(0), 0);
        check.same("13 same regret: the lowest job", x.dispatch(), 0);
        check.same("13 same length: the lowest vehicle", x.jobVehicle(0), 0);
        check.same("13 the next", x.dispatch(), 1);
        check.same("13 its vehicle", x.jobVehicle(1), 1);
        ZoneController six = star(12);
        for (int vehicle = 0; vehicle < 6; vehicle++) {
            six.addVehicle(12 - vehicle, 60 - vehicle);
            six.addJob(1 + vehicle);
        }
        for (int job = 0; job < 6; job++) {
            check.same("13 six: the lowest job", six.dispatch(), job);
            check.same("13 six: the lowest vehicle", six.jobVehicle(job), job);
        }
        check.same("13 six: no more", six.dispatch(), NONE);
    }

    private static void promise13DispatchCanTake() {
        ZoneController x = line(6);
        x.addVehicle(0, 60);
        x.addVehicle(3, 1);
        x.addJob(3);
        check.same("13 in the zone it can't; the other can't get through", x.dispatch(), NONE);
        x.addJob(5);
        check.same("13 too little energy, and in the way", x.dispatch(), NONE);
        x.addJob(4);
        check.same("13 just one", x.dispatch(), 2);
        check.same("13 the one with little", x.jobVehicle(2), 1);
        check.same("13 safe now: 3 is left by 1", x.regret(0), 1000);
        check.same("13 behind it", x.dispatch(), 0);
        check.same("13 by vehicle 0", x.jobVehicle(0), 0);
        x.tick(10);
        check.same("13 at 4", x.zoneOf(1), 4);
        check.same("13 at 3", x.zoneOf(0), 3);
        check.same("13 nobody can take the job in 5", x.dispatch(), NONE);
    }

    private static void promise14JobState() {
        ZoneController x = line(2);
        check.index("14 no job", () -> x.jobState(0));
        check.index("14 -1", () -> x.jobState(-1));
        x.addVehicle(0, 60);
        x.addJob(2);
        check.same("14 open", x.jobState(0), OPEN);
        check.index("14 1", () -> x.jobState(1));
        x.dispatch();
        check.same("14 given", x.jobState(0), GIVEN);
        x.tick(2);
        check.same("14 done", x.jobState(0), DONE);
        check.index("14 20", () -> x.jobState(20));
    }

    private static void promise15JobVehicle() {
        ZoneController x = line(4);
        check.index("15 no job", () -> x.jobVehicle(0));
        check.index("15 -1", () -> x.jobVehicle(-1));
        x.addVehicle(0, 60);
        x.addVehicle(4, 60);
        x.addJob(3);
        check.same("15 open", x.jobVehicle(0), NONE);
        x.dispatch();
        check.same("15 given", x.jobVehicle(0), 1);
        x.cancel(1);
        check.same("15 open again", x.jobVehicle(0), NONE);
        x.dispatch();
        x.tick(1);
        check.same("15 done", x.jobVehicle(0), 1);
        x.assign(1, 4);
        x.tick(1);
        check.same("15 still", x.jobVehicle(0), 1);
        check.index("15 1", () -> x.jobVehicle(1));
    }

    private static void promise16Regret() {
        ZoneController x = line(10);
        check.index("16 no job", () -> x.regret(0));
        check.index("16 -1", () -> x.regret(-1));
        x.addJob(4);
        check.same("16 no vehicle", x.regret(0), NONE);
        x.addVehicle(0, 60);
        check.same("16 one", x.regret(0), 1000);
        x.addVehicle(10, 60);
        check.same("16 4 and 6", x.regret(0), 2);
        x.addVehicle(9, 60);
        check.same("16 4 and 5; one stands in the way of the last", x.regret(0), 1);
        x.addJob(19);
        check.same("16 no way", x.regret(1), NONE);
        x.addJob(0);
        check.same("16 the one in the zone can't", x.regret(2), NONE);
        x.addJob(5);
        check.same("16 5 and 4: the lower vehicle is the farther", x.regret(3), 1);
        x.dispatch();
        check.same("16 given", x.jobState(0), GIVEN);
        check.same("16 none when given", x.regret(0), NONE);
        x.tick(10);
        check.same("16 none when done", x.regret(0), NONE);
        check.index("16 4", () -> x.regret(4));
        ZoneController three = star(9);
        three.addLane(9, 10);
        three.addVehicle(1, 60);
        three.addVehicle(10, 60);
        three.addVehicle(3, 60);
        three.addJob(0);
        check.same("16 1, 2 and 1: both least are the same", three.regret(0), 0);
        three.addJob(9);
        check.same("16 2, 1 and 2", three.regret(1), 1);
        three.addJob(5);
        check.same("16 2, 3 and 2", three.regret(2), 0);
        for (int vehicle = 3; vehicle < 6; vehicle++) {
            three.addVehicle(vehicle + 1, 60);
        }
        check.same("16 six", three.regret(0), 0);
    }

    private static void promise17Vehicles() {
        ZoneController x = new ZoneController();
        for (int vehicle = 0; vehicle < 6; vehicle++) {
            check.same("17 before", x.vehicles(), vehicle);
            x.addVehicle(vehicle * 3, 5);
        }
        check.same("17 all", x.vehicles(), 6);
        check.state("17 a seventh", () -> x.addVehicle(19, 5));
        check.same("17 still", x.vehicles(), 6);
    }

    private static void promise18ZoneOf() {
        ZoneController x = line(3);
        x.addVehicle(3, 5);
        x.addVehicle(0, 5);
        check.same("18 first", x.zoneOf(0), 3);
        check.same("18 second", x.zoneOf(1), 0);
        x.assign(1, 2);
        x.tick(1);
        check.same("18 on its way", x.zoneOf(1), 1);
        check.index("18 2", () -> x.zoneOf(2));
        check.index("18 -1", () -> x.zoneOf(-1));
        check.index("18 6", () -> x.zoneOf(6));
    }

    private static void promise19VehicleIn() {
        ZoneController x = line(19);
        x.addVehicle(19, 5);
        x.addVehicle(0, 5);
        check.same("19 first", x.vehicleIn(19), 0);
        check.same("19 second", x.vehicleIn(0), 1);
        check.same("19 none", x.vehicleIn(1), NONE);
        x.assign(1, 2);
        x.step(1);
        check.same("19 moved", x.vehicleIn(1), 1);
        check.same("19 left", x.vehicleIn(0), NONE);
        for (int zone : NO_ZONES) {
            check.argument("19 " + zone, () -> x.vehicleIn(zone));
        }
    }

    private static void promise20RouteLength() {
        ZoneController x = line(5);
        x.addVehicle(0, 60);
        check.same("20 idle", x.routeLength(0), 0);
        x.assign(0, 5);
        for (int left = 5; left > 0; left--) {
            check.same("20 left", x.routeLength(0), left);
            x.step(0);
        }
        check.same("20 idle again", x.routeLength(0), 0);
        check.index("20 1", () -> x.routeLength(1));
        check.index("20 -1", () -> x.routeLength(-1));
    }

    private static void promise21RouteZone() {
        ZoneController x = line(5);
        x.addVehicle(1, 60);
        check.argument("21 idle", () -> x.routeZone(0, 0));
        x.assign(0, 5);
        route("21 route", x, 0, 2, 3, 4, 5);
        check.argument("21 4", () -> x.routeZone(0, 4));
        check.argument("21 -1", () -> x.routeZone(0, -1));
        check.argument("21 most", () -> x.routeZone(0, Integer.MAX_VALUE));
        check.argument("21 least", () -> x.routeZone(0, Integer.MIN_VALUE));
        check.index("21 vehicle 1", () -> x.routeZone(1, 0));
        check.index("21 vehicle -1", () -> x.routeZone(-1, -1));
        x.tick(2);
        route("21 what is left", x, 0, 4, 5);
        check.argument("21 2", () -> x.routeZone(0, 2));
        check.argument("21 most, behind steps", () -> x.routeZone(0, Integer.MAX_VALUE));
    }

    private static void promise22Energy() {
        ZoneController x = line(3);
        x.addVehicle(0, 17);
        x.addVehicle(3, 4);
        check.same("22 first", x.energy(0), 17);
        check.same("22 second", x.energy(1), 4);
        x.assign(0, 2);
        check.same("22 a route takes none", x.energy(0), 17);
        x.tick(20);
        check.same("22 two steps", x.energy(0), 15);
        x.setCharger(2, true);
        x.charge(0);
        check.same("22 charged", x.energy(0), 60);
        check.same("22 the other is not", x.energy(1), 4);
        check.index("22 2", () -> x.energy(2));
        check.index("22 -1", () -> x.energy(-1));
    }

    private static void promise23Waited() {
        ZoneController x = line(7);
        x.addVehicle(0, 60);
        x.addVehicle(1, 60);
        x.addVehicle(2, 60);
        x.assign(2, 6);
        x.assign(1, 5);
        x.assign(0, 4);
        x.tick(1);
        check.same("23 0 behind 1", x.waited(0), 1);
        check.same("23 1 behind 2", x.waited(1), 1);
        check.same("23 2 is free", x.waited(2), 0);
        x.tick(1);
        check.same("23 0 still", x.waited(0), 2);
        check.same("23 1 not", x.waited(1), 1);
        x.tick(20);
        check.same("23 kept behind the route", x.waited(0), 2);
        check.index("23 3", () -> x.waited(3));
        check.index("23 -1", () -> x.waited(-1));
    }

    private static void promise24Orders() {
        ZoneController x = new ZoneController();
        for (int vehicle = 0; vehicle < 6; vehicle++) {
            x.addLane(3 * vehicle, 3 * vehicle + 1);
            x.addVehicle(3 * vehicle, 60);
        }
        check.same("24 all idle", x.orders(), 1);
        int[] factorials = {1, 1, 2, 6, 24, 120, 720};
        for (int vehicle = 0; vehicle < 6; vehicle++) {
            x.assign(vehicle, 3 * vehicle + 1);
            check.same("24 free ones", x.orders(), factorials[vehicle + 1]);
        }
        x.step(3);
        check.same("24 one is through", x.orders(), 120);
        ZoneController y = line(7);
        y.addVehicle(0, 60);
        y.addVehicle(2, 60);
        y.addVehicle(7, 60);
        y.assign(1, 5);
        y.assign(0, 3);
        check.same("24 one behind another", y.orders(), 1);
        y.assign(2, 6);
        check.same("24 and one beside them", y.orders(), 3);
        check.state("24 a call that throws", () -> y.cancel(1));
        check.same("24 changes nothing", y.orders(), 3);
        y.canStep(2);
        check.same("24 one that asks neither", y.orders(), 3);
    }

    private static void promise25Finisher() {
        ZoneController x = line(7);
        check.argument("25 no vehicle", () -> x.finisher(0));
        x.addVehicle(0, 60);
        x.addVehicle(2, 60);
        x.addVehicle(7, 60);
        check.argument("25 all idle", () -> x.finisher(0));
        x.assign(2, 6);
        order("25 just the highest", x, 2);
        x.assign(1, 5);
        order("25 by rising numbers", x, 1, 2);
        x.assign(0, 3);
        order("25 0 behind 1", x, 1, 0, 2);
        check.argument("25 -1", () -> x.finisher(-1));
        check.argument("25 least", () -> x.finisher(Integer.MIN_VALUE));
        check.argument("25 most", () -> x.finisher(Integer.MAX_VALUE));
        x.step(2);
        order("25 behind the step", x, 1, 0);
        // Vehicle 0 could run through first, but its end is on the route of vehicle 1: it has to let 1 pass.
        ZoneController y = star(5);
        y.addVehicle(1, 60);
        y.addVehicle(2, 60);
        y.assign(1, 3);
        y.assign(0, 0);
        check.same("25 one order", y.orders(), 1);
        order("25 the first one that works to the end", y, 1, 0);
        check.state("25 a call that throws", () -> y.addVehicle(3, 60));
        order("25 changes nothing", y, 1, 0);
        check.yes("25 behind a step of 1 it could let 0 pass", y.canStep(1));
        order("25 but it has not stepped", y, 1, 0);
        ZoneController z = line(7);
        z.addVehicle(0, 60);
        z.addVehicle(3, 60);
        z.assign(1, 4);
        z.assign(0, 3);
        check.yes("25 1 may step", z.canStep(1));
        order("25 it has not", z, 1, 0);
        check.state("25 a vehicle in front of 1 is refused", () -> z.addVehicle(4, 60));
        order("25 it did not come", z, 1, 0);
        z.addVehicle(7, 60);
        order("25 an idle one is in no order", z, 1, 0);
    }
}
