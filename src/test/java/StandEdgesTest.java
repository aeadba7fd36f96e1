/** Promises 17 to 25, how things stand: each sentence that names a boundary case has a test of its own. */
public final class StandEdgesTest {
    private static final int NONE = ZoneController.NONE;

    private static final Check check = new Check();

    public static void main(String[] args) {
        check.part("17", StandEdgesTest::vehiclesIsHowMany);
        check.part("18 returns", StandEdgesTest::zoneOfIsTheZone);
        check.part("18 no vehicle", StandEdgesTest::zoneOfRefusesNoVehicle);
        check.part("19 returns", StandEdgesTest::vehicleInIsTheVehicle);
        check.part("19 none", StandEdgesTest::vehicleInIsNoneIfThereIsNone);
        check.part("19 no zone", StandEdgesTest::vehicleInRefusesNoZone);
        check.part("20 returns", StandEdgesTest::routeLengthIsHowManyAreLeft);
        check.part("20 idle", StandEdgesTest::routeLengthIsZeroIfIdle);
        check.part("20 no vehicle", StandEdgesTest::routeLengthRefusesNoVehicle);
        check.part("21 returns", StandEdgesTest::routeZoneIsTheZone);
        check.part("21 place", StandEdgesTest::routeZoneRefusesOtherPlaces);
        check.part("21 no vehicle", StandEdgesTest::routeZoneRefusesNoVehicle);
        check.part("22 returns", StandEdgesTest::energyIsTheEnergy);
        check.part("22 no vehicle", StandEdgesTest::energyRefusesNoVehicle);
        check.part("23 returns", StandEdgesTest::waitedIsAllTicks);
        check.part("23 no vehicle", StandEdgesTest::waitedRefusesNoVehicle);
        check.part("24 returns", StandEdgesTest::ordersIsHowMany);
        check.part("24 none", StandEdgesTest::ordersIsOneWithoutRoutes);
        check.part("25 returns", StandEdgesTest::finisherIsOfTheFirstOrder);
        check.part("25 place", StandEdgesTest::finisherRefusesOtherPlaces);
        check.end();
    }

    /** So many vehicles, each with a line of three zones of its own, and with routes to their ends. */
    private static Plan apart(int vehicles) {
        Plan plan = Plan.nothing();
        for (int vehicle = 0; vehicle < vehicles; vehicle++) {
            int zone = 3 * vehicle;
            plan = plan.lane(zone, zone + 1).lane(zone + 1, zone + 2).vehicle(zone, 60).assign(vehicle, zone + 2);
        }
        return plan;
    }

    /** Six vehicles behind one another in a line, so that the highest has to go first. */
    private static Plan queue() {
        Plan plan = Plan.line(19);
        for (int vehicle = 0; vehicle < 6; vehicle++) {
            plan = plan.vehicle(vehicle, 60);
        }
        for (int vehicle = 5; vehicle >= 0; vehicle--) {
            plan = plan.assign(vehicle, 14 + vehicle);
        }
        return plan;
    }

    // ---- promise 17

    /** "Returns how many vehicles there are": 0 to 6. */
    private static void vehiclesIsHowMany() {
        Plan plan = Plan.nothing();
        for (int vehicle = 0; vehicle <= 6; vehicle++) {
            int zone = 19 - vehicle;
            check.due("17 so many", plan, vehicle, x -> x.vehicles());
            check.due("17 one to no zone", plan.thenTry(x -> x.addVehicle(20, 5)), vehicle, x -> x.vehicles());
            check.due("17 one with energy 61", plan.thenTry(x -> x.addVehicle(0, 61)), vehicle, x -> x.vehicles());
            if (vehicle < 6) {
                plan = plan.vehicle(zone, 5);
            }
            check.due("17 one in a taken zone", plan.thenTry(x -> x.addVehicle(19, 5)), Math.min(vehicle + 1, 6),
                    x -> x.vehicles());
        }
        check.due("17 a seventh", plan.thenTry(x -> x.addVehicle(0, 5)), 6, x -> x.vehicles());
        check.changesNothing("17 it only asks", Plan.busy(), x -> x.vehicles());
    }

    // ---- promise 18

    /** "Returns the zone": 0 to 19. */
    private static void zoneOfIsTheZone() {
        for (int zone = 0; zone < 20; zone++) {
            int z = zone;
            check.due("18 its zone", Plan.nothing().vehicle(z, 5), z, x -> x.zoneOf(0));
            Plan two = Plan.nothing().vehicle((z + 1) % 20, 5).vehicle(z, 5);
            check.due("18 its zone, of two", two, z, x -> x.zoneOf(1));
        }
        check.due("18 not where it goes", Plan.line(3).vehicle(1, 5).assign(0, 3), 1, x -> x.zoneOf(0));
        check.due("18 the sixth", Plan.full(), 18, x -> x.zoneOf(5));
        check.changesNothing("18 it only asks", Plan.busy(), x -> x.zoneOf(0));
    }

    /** "Throws IndexOutOfBoundsException if there is no such vehicle". */
    private static void zoneOfRefusesNoVehicle() {
        for (Plan plan : Plan.states()) {
            for (int vehicle : Check.noVehicles(plan)) {
                check.refusesIndex("18 vehicle " + vehicle, plan, x -> x.zoneOf(vehicle));
            }
        }
    }

    // ---- promise 19

    /** "Returns the vehicle": 0 to 5. */
    private static void vehicleInIsTheVehicle() {
        Plan plan = Plan.nothing();
        for (int vehicle = 0; vehicle < 6; vehicle++) {
            plan = plan.vehicle((19 + 3 * vehicle) % 20, 5);
        }
        for (int vehicle = 0; vehicle < 6; vehicle++) {
            int v = vehicle;
            check.due("19 the vehicle", plan, v, x -> x.vehicleIn((19 + 3 * v) % 20));
        }
        check.due("19 where it has come", Plan.line(3).vehicle(0, 5).assign(0, 3).step(0), 0, x -> x.vehicleIn(1));
        check.changesNothing("19 it only asks", Plan.busy(), x -> x.vehicleIn(1));
    }

    /** "NONE if there is none." */
    private static void vehicleInIsNoneIfThereIsNone() {
        for (int zone = 0; zone < 20; zone++) {
            int z = zone;
            check.due("19 no vehicles", Plan.nothing(), NONE, x -> x.vehicleIn(z));
            check.due("19 a lone one", Plan.nothing().vehicle(7, 5), z == 7 ? 0 : NONE, x -> x.vehicleIn(z));
        }
        Plan going = Plan.line(3).vehicle(0, 5).assign(0, 3).step(0);
        check.due("19 where it was", going, NONE, x -> x.vehicleIn(0));
        check.due("19 where it goes", going, NONE, x -> x.vehicleIn(2));
        check.due("19 where it goes at last", going, NONE, x -> x.vehicleIn(3));
    }

    /** "Throws IllegalArgumentException if zone is no zone". */
    private static void vehicleInRefusesNoZone() {
        for (Plan plan : Plan.states()) {
            for (int zone : Check.NO_ZONES) {
                check.refusesArgument("19 zone " + zone, plan, x -> x.vehicleIn(zone));
            }
        }
    }

    // ---- promise 20

    /** "Returns how many": 1 to 19. */
    private static void routeLengthIsHowManyAreLeft() {
        Plan plan = Plan.line(19).vehicle(19, 60).assign(0, 0);
        for (int left = 19; left > 0; left--) {
            check.due("20 left", plan, left, x -> x.routeLength(0));
            plan = plan.step(0);
        }
        check.due("20 none left", plan, 0, x -> x.routeLength(0));
        check.due("20 each its own", Plan.busy(), 2, x -> x.routeLength(2));
        check.changesNothing("20 it only asks", Plan.busy(), x -> x.routeLength(0));
    }

    /** "0 if it is idle." */
    private static void routeLengthIsZeroIfIdle() {
        Plan plan = Plan.line(3).vehicle(0, 60);
        check.due("20 never a route", plan, 0, x -> x.routeLength(0));
        check.due("20 at its end", plan.assign(0, 3).tick(3), 0, x -> x.routeLength(0));
        check.due("20 taken away", plan.assign(0, 3).cancel(0), 0, x -> x.routeLength(0));
        check.due("20 taken away on the way", plan.assign(0, 3).tick(1).cancel(0), 0, x -> x.routeLength(0));
        check.due("20 a refused one", plan.thenTry(x -> x.assign(0, 19)), 0, x -> x.routeLength(0));
        check.due("20 beside busy ones", Plan.busy(), 0, x -> x.routeLength(3));
    }

    /** "Throws IndexOutOfBoundsException if there is no such vehicle". */
    private static void routeLengthRefusesNoVehicle() {
        for (Plan plan : Plan.states()) {
            for (int vehicle : Check.noVehicles(plan)) {
                check.refusesIndex("20 vehicle " + vehicle, plan, x -> x.routeLength(vehicle));
            }
        }
    }

    // ---- promise 21

    /** "0 for the zone to which it goes next, to the length of its route less 1". */
    private static void routeZoneIsTheZone() {
        Plan plan = Plan.line(19).vehicle(0, 60).assign(0, 19);
        for (int at = 0; at < 19; at++) {
            int next = at + 1;
            check.due("21 the next one", plan, next, x -> x.routeZone(0, 0));
            check.due("21 the last one", plan, 19, x -> x.routeZone(0, 19 - next));
            check.due("21 the middle one", plan, next + (19 - next) / 2, x -> x.routeZone(0, (19 - next) / 2));
            check.refusesArgument("21 behind the last one", plan, x -> x.routeZone(0, 20 - next));
            plan = plan.step(0);
        }
        check.refusesArgument("21 none left", plan, x -> x.routeZone(0, 0));
        check.due("21 a later route", plan.assign(0, 5), 18, x -> x.routeZone(0, 0));
        check.due("21 its last one", plan.assign(0, 5), 5, x -> x.routeZone(0, 13));
        check.changesNothing("21 it only asks", Plan.busy(), x -> x.routeZone(1, 1));
    }

    /** "Throws IllegalArgumentException if place is out of range". */
    private static void routeZoneRefusesOtherPlaces() {
        int[] wrong = {-1, 2, 3, 19, 20, 256, Integer.MIN_VALUE, Integer.MIN_VALUE + 1, Integer.MAX_VALUE};
        for (int place : wrong) {
            check.refusesArgument("21 place " + place, Plan.busy(), x -> x.routeZone(1, place));
            check.refusesArgument("21 place, on the way " + place, Plan.line(9).vehicle(0, 60).assign(0, 5).tick(3),
                    x -> x.routeZone(0, place));
        }
        for (int place : new int[] {-1, 0, 1, 19, Integer.MIN_VALUE, Integer.MAX_VALUE}) {
            check.refusesArgument("21 idle, place " + place, Plan.busy(), x -> x.routeZone(3, place));
            check.refusesArgument("21 at its end, place " + place, Plan.line(9).vehicle(0, 60).assign(0, 5).tick(5),
                    x -> x.routeZone(0, place));
            check.refusesArgument("21 taken away, place " + place, Plan.line(9).vehicle(0, 60).assign(0, 5).cancel(0),
                    x -> x.routeZone(0, place));
        }
    }

    /** "Throws IndexOutOfBoundsException if there is no such vehicle". */
    private static void routeZoneRefusesNoVehicle() {
        for (Plan plan : Plan.states()) {
            for (int vehicle : Check.noVehicles(plan)) {
                check.refusesIndex("21 vehicle " + vehicle, plan, x -> x.routeZone(vehicle, 0));
                check.refusesIndex("21 vehicle and place " + vehicle, plan, x -> x.routeZone(vehicle, -1));
                check.refusesIndex("21 vehicle and far place " + vehicle, plan, x -> x.routeZone(vehicle, 99));
            }
        }
    }

    // ---- promise 22

    /** "Returns the energy": 0 to 60. */
    private static void energyIsTheEnergy() {
        for (int energy = 0; energy <= 60; energy++) {
            check.due("22 energy", Plan.nothing().vehicle(0, energy), energy, x -> x.energy(0));
        }
        Plan plan = Plan.line(19).vehicle(0, 19).vehicle(19, 7).assign(0, 18);
        for (int left = 19; left > 1; left--) {
            check.due("22 less for each step", plan, left, x -> x.energy(0));
            check.due("22 not for those of another", plan, 7, x -> x.energy(1));
            plan = plan.step(0);
        }
        check.due("22 the last one", Plan.line(1).vehicle(0, 1).assign(0, 1).tick(20), 0, x -> x.energy(0));
        check.changesNothing("22 it only asks", Plan.busy(), x -> x.energy(1));
    }

    /** "Throws IndexOutOfBoundsException if there is no such vehicle". */
    private static void energyRefusesNoVehicle() {
        for (Plan plan : Plan.states()) {
            for (int vehicle : Check.noVehicles(plan)) {
                check.refusesIndex("22 vehicle " + vehicle, plan, x -> x.energy(vehicle));
            }
        }
    }

    // ---- promise 23

    /** "Returns for how many ticks a vehicle has waited in all": from 0. */
    private static void waitedIsAllTicks() {
        Plan plan = queue();
        for (int ticks = 1; ticks <= 20; ticks++) {
            for (int vehicle = 0; vehicle < 6; vehicle++) {
                int v = vehicle;
                Plan then = plan.tick(ticks);
                check.due("23 until the next one has left " + v, then, Math.min(ticks, 5 - v), x -> x.waited(v));
            }
        }
        check.due("23 none yet", plan, 0, x -> x.waited(0));
        check.due("23 a refused step is no wait", plan.thenTry(x -> x.step(0)), 0, x -> x.waited(0));
        Plan twice = Plan.line(9).vehicle(0, 60).vehicle(1, 60).assign(1, 3).assign(0, 2).tick(20);
        check.due("23 once", twice, 1, x -> x.waited(0));
        check.due("23 in all", twice.assign(1, 5).assign(0, 4).tick(20), 2, x -> x.waited(0));
        check.due("23 kept when the route is taken away", queue().tick(2).cancel(0), 2, x -> x.waited(0));
        check.changesNothing("23 it only asks", Plan.busy(), x -> x.waited(2));
    }

    /** "Throws IndexOutOfBoundsException if there is no such vehicle". */
    private static void waitedRefusesNoVehicle() {
        for (Plan plan : Plan.states()) {
            for (int vehicle : Check.noVehicles(plan)) {
                check.refusesIndex("23 vehicle " + vehicle, plan, x -> x.waited(vehicle));
            }
        }
    }

    // ---- promise 24

    /** "Returns how many orders there are": 1 to 720. */
    private static void ordersIsHowMany() {
        int[] free = {1, 1, 2, 6, 24, 120, 720};
        for (int vehicles = 0; vehicles <= 6; vehicles++) {
            check.due("24 free ones", apart(vehicles), free[vehicles], x -> x.orders());
        }
        check.due("24 one of 720", queue(), 1, x -> x.orders());
        check.due("24 one that is through is in no order", apart(6).tick(1).step(3), 120, x -> x.orders());
        check.due("24 all that are through", apart(6).tick(2), 1, x -> x.orders());
        check.due("24 one that was cancelled", apart(6).cancel(5), 120, x -> x.orders());
        check.due("24 busy ones", Plan.busy(), 3, x -> x.orders());
        check.due("24 two pairs, each in one order", Plan.line(9).lane(10, 11).lane(11, 12).lane(12, 13)
                .vehicle(0, 60).vehicle(1, 60).vehicle(10, 60).vehicle(11, 60)
                .assign(1, 5).assign(0, 4).assign(3, 13).assign(2, 12), 6, x -> x.orders());
        check.changesNothing("24 it only asks", Plan.busy(), x -> x.orders());
        check.changesNothing("24 it only asks, full", Plan.full(), x -> x.orders());
    }

    /** "1 if there are no such vehicles." */
    private static void ordersIsOneWithoutRoutes() {
        Plan idle = Plan.line(19);
        for (int vehicle = 0; vehicle < 6; vehicle++) {
            check.due("24 idle ones", idle, 1, x -> x.orders());
            idle = idle.vehicle(vehicle, 60);
        }
        check.due("24 six idle ones", idle, 1, x -> x.orders());
        check.due("24 behind the last step", Plan.line(3).vehicle(0, 60).assign(0, 3).tick(3), 1, x -> x.orders());
        check.due("24 taken away", Plan.line(3).vehicle(0, 60).assign(0, 3).cancel(0), 1, x -> x.orders());
    }

    // ---- promise 25

    /** "of that which has the lower vehicle at the first place at which it differs from each other one." */
    private static void finisherIsOfTheFirstOrder() {
        for (int place = 0; place < 6; place++) {
            int p = place;
            check.due("25 free ones", apart(6), p, x -> x.finisher(p));
            check.due("25 the only order", queue(), 5 - p, x -> x.finisher(p));
            check.due("25 without vehicle 0", apart(6).cancel(0), p < 5 ? p + 1 : 1, x -> x.finisher(p % 5));
        }
        // Vehicle 0 could run first, but would end on the route of 2; 1 is free: 1, 2, 0 comes before 2, 0, 1.
        Plan plan = Plan.star(9).lane(18, 19).vehicle(1, 60).vehicle(18, 60).vehicle(2, 60)
                .assign(2, 4).assign(1, 19).assign(0, 0);
        int[] due = {1, 2, 0};
        check.due("25 three orders", plan, 3, x -> x.orders());
        for (int place = 0; place < 3; place++) {
            int p = place;
            check.due("25 the first one of them", plan, due[p], x -> x.finisher(p));
        }
        for (int vehicle = 0; vehicle < 3; vehicle++) {
            int v = vehicle;
            check.due("25 behind other questions " + v, plan.then(x -> x.canStep(v)), 1, x -> x.finisher(0));
            check.due("25 behind a job " + v, plan.job(0).then(x -> x.regret(0)), 0, x -> x.finisher(2));
        }
        check.changesNothing("25 it only asks", Plan.busy(), x -> x.finisher(2));
        check.changesNothing("25 it only asks, full", Plan.full(), x -> x.finisher(1));
    }

    /** "Throws IllegalArgumentException if place is out of range". */
    private static void finisherRefusesOtherPlaces() {
        int[] wrong = {-1, 6, 7, 32, 256, Integer.MIN_VALUE, Integer.MIN_VALUE + 1, Integer.MAX_VALUE};
        for (int vehicles = 0; vehicles <= 6; vehicles++) {
            int so = vehicles;
            for (int place : wrong) {
                check.refusesArgument("25 place " + place, apart(vehicles), x -> x.finisher(place));
            }
            check.refusesArgument("25 as many as have a route " + so, apart(vehicles), x -> x.finisher(so));
            if (vehicles > 0) {
                check.due("25 the last place " + so, apart(vehicles), so - 1, x -> x.finisher(so - 1));
                check.refusesArgument("25 one is through " + so, apart(vehicles).step(0).step(0),
                        x -> x.finisher(so - 1));
                check.refusesArgument("25 one was taken away " + so, apart(vehicles).cancel(so - 1),
                        x -> x.finisher(so - 1));
            }
        }
        check.refusesArgument("25 idle ones do not count", Plan.busy(), x -> x.finisher(3));
        check.refusesArgument("25 nor six of which two have a route", Plan.full(), x -> x.finisher(2));
    }
}
