/** Promises 5 to 11, vehicles and routes: each sentence that names a boundary case has a test of its own. */
public final class VehicleEdgesTest {
    private static final int NONE = ZoneController.NONE;
    private static final int OPEN = ZoneController.OPEN;
    private static final int GIVEN = ZoneController.GIVEN;
    private static final int DONE = ZoneController.DONE;

    private static final Check check = new Check();

    public static void main(String[] args) {
        check.part("5 number", VehicleEdgesTest::addVehicleReturnsItsNumber);
        check.part("5 idle", VehicleEdgesTest::addVehicleBringsAnIdleOne);
        check.part("5 no zone", VehicleEdgesTest::addVehicleRefusesNoZone);
        check.part("5 energy", VehicleEdgesTest::addVehicleRefusesEnergy);
        check.part("5 six", VehicleEdgesTest::addVehicleRefusesASeventh);
        check.part("5 in the zone", VehicleEdgesTest::addVehicleRefusesATakenZone);
        check.part("5 not safe", VehicleEdgesTest::addVehicleRefusesWhatIsNotSafe);
        check.part("6 returns", VehicleEdgesTest::assignReturnsTheLength);
        check.part("6 no vehicle", VehicleEdgesTest::assignRefusesNoVehicle);
        check.part("6 no zone", VehicleEdgesTest::assignRefusesNoZone);
        check.part("6 not idle", VehicleEdgesTest::assignRefusesOneThatIsNotIdle);
        check.part("6 in the zone", VehicleEdgesTest::assignRefusesItsOwnZone);
        check.part("6 no way", VehicleEdgesTest::assignRefusesWithoutAWay);
        check.part("6 energy", VehicleEdgesTest::assignRefusesTooLittleEnergy);
        check.part("6 not safe", VehicleEdgesTest::assignRefusesWhatIsNotSafe);
        check.part("7 returns", VehicleEdgesTest::cancelReturnsWhatWasLeft);
        check.part("7 idle then", VehicleEdgesTest::cancelMakesItIdle);
        check.part("7 job", VehicleEdgesTest::cancelOpensTheJob);
        check.part("7 no vehicle", VehicleEdgesTest::cancelRefusesNoVehicle);
        check.part("7 idle", VehicleEdgesTest::cancelRefusesAnIdleOne);
        check.part("7 not safe", VehicleEdgesTest::cancelRefusesWhatIsNotSafe);
        check.part("8 returns", VehicleEdgesTest::chargeReturnsHowMuch);
        check.part("8 no vehicle", VehicleEdgesTest::chargeRefusesNoVehicle);
        check.part("8 not idle", VehicleEdgesTest::chargeRefusesOneThatIsNotIdle);
        check.part("8 no charger", VehicleEdgesTest::chargeRefusesWithoutACharger);
        check.part("9 route", VehicleEdgesTest::canStepNeedsARoute);
        check.part("9 free", VehicleEdgesTest::canStepNeedsAFreeZone);
        check.part("9 safe", VehicleEdgesTest::canStepNeedsASafePlant);
        check.part("9 no vehicle", VehicleEdgesTest::canStepRefusesNoVehicle);
        check.part("10 returns", VehicleEdgesTest::stepReturnsTheZone);
        check.part("10 job", VehicleEdgesTest::stepMakesTheJobDone);
        check.part("10 no vehicle", VehicleEdgesTest::stepRefusesNoVehicle);
        check.part("10 may not", VehicleEdgesTest::stepRefusesOneThatMayNot);
        check.part("11 returns", VehicleEdgesTest::tickReturnsHowManySteps);
        check.part("11 1 to 20", VehicleEdgesTest::tickTakesOneToTwenty);
        check.part("11 rising numbers", VehicleEdgesTest::tickGoesByRisingNumbers);
        check.part("11 waits", VehicleEdgesTest::tickLetsVehiclesWait);
        check.part("11 job", VehicleEdgesTest::tickMakesJobsDone);
        check.part("11 range", VehicleEdgesTest::tickRefusesOtherTicks);
        check.end();
    }

    /** A line 0 to 4 with a siding 8 at zone 2; vehicle 0 goes from 0 to the siding, 1 from 4 to 0. */
    private static Plan meeting() {
        return Plan.line(4).lane(2, 8).vehicle(0, 60).vehicle(4, 60).assign(0, 8).assign(1, 0);
    }

    // ---- promise 5

    /** "Returns its number." */
    private static void addVehicleReturnsItsNumber() {
        Plan plan = Plan.nothing();
        for (int vehicle = 0; vehicle < 6; vehicle++) {
            int zone = 3 * vehicle;
            check.due("5 number", plan, vehicle, x -> x.addVehicle(zone, 5));
            check.due("5 behind a refused one", plan.thenTry(x -> x.addVehicle(20, 5)), vehicle,
                    x -> x.addVehicle(zone, 5));
            check.due("5 behind another refused one", plan.thenTry(x -> x.addVehicle(19, 61)), vehicle,
                    x -> x.addVehicle(19, 5));
            plan = plan.vehicle(zone, 5);
        }
    }

    /** "Brings a vehicle, which is idle." */
    private static void addVehicleBringsAnIdleOne() {
        for (int zone : new int[] {0, 1, 18, 19}) {
            for (int energy : new int[] {0, 1, 59, 60}) {
                Plan plan = Plan.line(19).vehicle(zone, energy);
                int z = zone;
                check.due("5 its zone", plan, z, x -> x.zoneOf(0));
                check.due("5 its energy", plan, energy, x -> x.energy(0));
                check.due("5 no route", plan, 0, x -> x.routeLength(0));
                check.due("5 it has not waited", plan, 0, x -> x.waited(0));
                check.due("5 it may not step", plan, 0, x -> x.canStep(0) ? 1 : 0);
                check.due("5 it is in the zone", plan, 0, x -> x.vehicleIn(z));
                check.due("5 it does not step", plan, 0, x -> x.tick(20));
                check.due("5 it does not wait", plan.tick(20), 0, x -> x.waited(0));
            }
        }
    }

    /** "Throws IllegalArgumentException if zone is no zone". */
    private static void addVehicleRefusesNoZone() {
        for (Plan plan : Plan.states()) {
            for (int zone : Check.NO_ZONES) {
                check.refusesArgument("5 zone " + zone, plan, x -> x.addVehicle(zone, 5));
                check.refusesArgument("5 zone and energy " + zone, plan, x -> x.addVehicle(zone, 61));
            }
        }
    }

    /** "or energy is out of range": 0 to 60. */
    private static void addVehicleRefusesEnergy() {
        int[] wrong = {-1, 61, -60, 62, 256, 65536, Integer.MIN_VALUE, Integer.MIN_VALUE + 60, Integer.MAX_VALUE};
        for (Plan plan : Plan.states()) {
            for (int energy : wrong) {
                check.refusesArgument("5 energy " + energy, plan, x -> x.addVehicle(19, energy));
                check.refusesArgument("5 energy, zone 2 " + energy, plan, x -> x.addVehicle(2, energy));
            }
        }
    }

    /** "Throws IllegalStateException if there are 6 vehicles". */
    private static void addVehicleRefusesASeventh() {
        Plan idle = Plan.nothing();
        for (int vehicle = 0; vehicle < 6; vehicle++) {
            idle = idle.vehicle(vehicle, 60);
        }
        for (int zone = 0; zone < 20; zone++) {
            int z = zone;
            check.refusesState("5 a seventh in " + z, idle, x -> x.addVehicle(z, 0));
            check.refusesState("5 a seventh beside busy ones in " + z, Plan.full(), x -> x.addVehicle(z, 60));
        }
    }

    /** "one is in the zone". */
    private static void addVehicleRefusesATakenZone() {
        for (int zone = 0; zone < 20; zone++) {
            int z = zone;
            check.refusesState("5 one is in " + z, Plan.nothing().vehicle(z, 60), x -> x.addVehicle(z, 0));
            check.due("5 one is not in " + z, Plan.nothing().vehicle((z + 1) % 20, 60), 1, x -> x.addVehicle(z, 0));
        }
        for (int zone : new int[] {1, 5, 9, 12}) {
            check.refusesState("5 a busy one is in " + zone, Plan.busy(), x -> x.addVehicle(zone, 60));
        }
        Plan gone = Plan.line(3).vehicle(0, 60).assign(0, 3).tick(1);
        check.due("5 it was there", gone, 1, x -> x.addVehicle(0, 60));
        check.refusesState("5 it is there now", gone, x -> x.addVehicle(1, 60));
    }

    /** "or the plant would not be safe". */
    private static void addVehicleRefusesWhatIsNotSafe() {
        Plan plan = Plan.line(9).vehicle(2, 60).assign(0, 7);
        for (int zone = 3; zone <= 7; zone++) {
            int z = zone;
            check.refusesState("5 on the route in " + z, plan, x -> x.addVehicle(z, 0));
            check.due("5 when there is no route", plan.cancel(0), 1, x -> x.addVehicle(z, 0));
            check.due("5 when it has run through", plan.tick(5), z == 7 ? 0 : 1,
                    x -> z == 7 ? x.vehicleIn(7) : x.addVehicle(z, 0));
        }
        for (int zone : new int[] {0, 1, 8, 9, 10, 19}) {
            int z = zone;
            check.due("5 beside the route in " + z, plan, 1, x -> x.addVehicle(z, 0));
        }
        for (int zone : new int[] {0, 3, 4}) {
            check.refusesState("5 on a busy route in " + zone, Plan.busy(), x -> x.addVehicle(zone, 60));
        }
        check.due("5 where all are through", plan.step(0).step(0), 1, x -> x.addVehicle(3, 0));
    }

    // ---- promise 6

    /** "Returns the number of zones of the route": 1 to 19. */
    private static void assignReturnsTheLength() {
        for (int zone = 0; zone < 20; zone++) {
            int z = zone;
            if (zone != 0) {
                check.due("6 length", Plan.line(19).vehicle(0, 60), z, x -> x.assign(0, z));
                check.due("6 the same", Plan.line(19).vehicle(0, 60).assign(0, z), z, x -> x.routeLength(0));
            }
            if (zone != 19) {
                check.due("6 length back", Plan.line(19).vehicle(19, 60), 19 - z, x -> x.assign(0, z));
            }
        }
        check.due("6 the sixth vehicle", Plan.full(), 3, x -> x.assign(5, 15));
        check.due("6 it takes no energy", Plan.line(3).vehicle(0, 7).assign(0, 3), 7, x -> x.energy(0));
    }

    /** "Throws IndexOutOfBoundsException if there is no such vehicle". */
    private static void assignRefusesNoVehicle() {
        for (Plan plan : Plan.states()) {
            for (int vehicle : Check.noVehicles(plan)) {
                check.refusesIndex("6 vehicle " + vehicle, plan, x -> x.assign(vehicle, 10));
                check.refusesIndex("6 vehicle and zone " + vehicle, plan, x -> x.assign(vehicle, vehicle));
                check.refusesIndex("6 vehicle, zone 20 " + vehicle, plan, x -> x.assign(vehicle, 20));
            }
        }
    }

    /** "Throws IllegalArgumentException if zone is no zone". */
    private static void assignRefusesNoZone() {
        for (int zone : Check.NO_ZONES) {
            check.refusesArgument("6 idle " + zone, Plan.line(19).vehicle(0, 60), x -> x.assign(0, zone));
            check.refusesArgument("6 one idle of some " + zone, Plan.busy(), x -> x.assign(3, zone));
            check.refusesArgument("6 not idle " + zone, Plan.busy(), x -> x.assign(0, zone));
            check.refusesArgument("6 the sixth " + zone, Plan.full(), x -> x.assign(5, zone));
            check.refusesArgument("6 without energy " + zone, Plan.nothing().vehicle(0, 0), x -> x.assign(0, zone));
        }
    }

    /** "Throws IllegalStateException if the vehicle is not idle". */
    private static void assignRefusesOneThatIsNotIdle() {
        Plan plan = Plan.line(5).vehicle(1, 60).assign(0, 3);
        for (int zone = 0; zone < 6; zone++) {
            int z = zone;
            check.refusesState("6 it has a route " + z, plan, x -> x.assign(0, z));
            check.refusesState("6 it has one zone left " + z, plan.step(0), x -> x.assign(0, z));
            if (z != 3) {
                check.due("6 it has none left " + z, plan.tick(2), Math.abs(3 - z), x -> x.assign(0, z));
            }
            if (z != 2) {
                check.due("6 it was taken away " + z, plan.step(0).cancel(0), Math.abs(2 - z), x -> x.assign(0, z));
            }
        }
        check.refusesState("6 it has a job", Plan.busy(), x -> x.assign(0, 2));
    }

    /** "or is in the zone". */
    private static void assignRefusesItsOwnZone() {
        for (int zone = 0; zone < 20; zone++) {
            int z = zone;
            check.refusesState("6 it is in " + z, Plan.nothing().vehicle(z, 60), x -> x.assign(0, z));
            check.refusesState("6 in a line, it is in " + z, Plan.line(19).vehicle(z, 60), x -> x.assign(0, z));
        }
        Plan came = Plan.line(2).vehicle(0, 60).assign(0, 2).tick(2);
        check.refusesState("6 it has come there", came, x -> x.assign(0, 2));
        check.due("6 it has left", came, 2, x -> x.assign(0, 0));
        check.refusesState("6 with energy 0", Plan.line(2).vehicle(0, 0), x -> x.assign(0, 0));
    }

    /** "there is no way". */
    private static void assignRefusesWithoutAWay() {
        for (int zone = 1; zone < 20; zone++) {
            int z = zone;
            check.refusesState("6 no lanes, to " + z, Plan.nothing().vehicle(0, 60), x -> x.assign(0, z));
            check.refusesState("6 no lanes, from " + z, Plan.nothing().vehicle(z, 60), x -> x.assign(0, 0));
        }
        Plan parts = Plan.line(9).lane(10, 11).vehicle(0, 60);
        check.refusesState("6 no lane between two parts", parts, x -> x.assign(0, 10));
        check.due("6 a lane between two parts", parts.lane(9, 10), 10, x -> x.assign(0, 10));
    }

    /** "its energy is not enough". */
    private static void assignRefusesTooLittleEnergy() {
        for (int lanes = 1; lanes < 20; lanes++) {
            int to = lanes;
            check.due("6 just enough " + to, Plan.line(19).vehicle(0, to), to, x -> x.assign(0, to));
            check.refusesState("6 one less " + to, Plan.line(19).vehicle(0, to - 1), x -> x.assign(0, to));
            Plan charger = Plan.line(19).charger(0);
            check.due("6 just enough, and back " + to, charger.vehicle(0, 2 * to), to, x -> x.assign(0, to));
            check.refusesState("6 one less, and back " + to, charger.vehicle(0, 2 * to - 1), x -> x.assign(0, to));
        }
        Plan gone = Plan.line(5).vehicle(0, 4).assign(0, 2).tick(2);
        check.due("6 what is left is enough", gone, 2, x -> x.assign(0, 4));
        check.refusesState("6 what is left is not enough", gone, x -> x.assign(0, 5));
        check.due("6 charged it is", gone.charger(2).charge(0), 3, x -> x.assign(0, 5));
    }

    /** "or the plant would not be safe". */
    private static void assignRefusesWhatIsNotSafe() {
        Plan ends = Plan.line(9).vehicle(3, 60);
        check.refusesState("6 one stands on the way", ends.vehicle(5, 60), x -> x.assign(0, 7));
        check.refusesState("6 one stands at its first zone", ends.vehicle(4, 60), x -> x.assign(0, 7));
        check.refusesState("6 one stands at its end", ends.vehicle(7, 60), x -> x.assign(0, 7));
        check.due("6 one stands behind its end", ends.vehicle(8, 60), 4, x -> x.assign(0, 7));
        check.due("6 one stands behind it", ends.vehicle(2, 60), 4, x -> x.assign(0, 7));
        Plan going = Plan.line(9).lane(5, 12).vehicle(3, 60).vehicle(9, 60).assign(1, 5);
        check.due("6 up to where the other will end", going, 1, x -> x.assign(0, 4));
        check.refusesState("6 to where the other will end", going, x -> x.assign(0, 5));
        check.due("6 through where the other will end, ahead of it", going, 3, x -> x.assign(0, 12));
        check.refusesState("6 past each other", going, x -> x.assign(0, 7));
        Plan past = Plan.line(9).lane(5, 12).vehicle(3, 60).vehicle(9, 60);
        check.refusesState("6 one stands there and has no route", past, x -> x.assign(1, 0));
        check.refusesState("6 its route ends on the way", past.assign(0, 5), x -> x.assign(1, 0));
        check.due("6 its route ends in a siding", past.assign(0, 12), 9, x -> x.assign(1, 0));
        check.refusesState("6 on a busy way", Plan.busy(), x -> x.assign(3, 5));
    }

    // ---- promise 7

    /** "Returns the number of zones that were left of the route": 1 to 19. */
    private static void cancelReturnsWhatWasLeft() {
        Plan plan = Plan.line(19).vehicle(0, 60).assign(0, 19);
        for (int left = 19; left > 0; left--) {
            check.due("7 left", plan, left, x -> x.cancel(0));
            plan = plan.step(0);
        }
        check.refusesState("7 none left", plan, x -> x.cancel(0));
    }

    /** "Takes the route of a vehicle away; [..] it is idle then". */
    private static void cancelMakesItIdle() {
        Plan plan = Plan.line(5).vehicle(0, 60).assign(0, 5).step(0).cancel(0);
        check.due("7 no zones", plan, 0, x -> x.routeLength(0));
        check.refusesArgument("7 no first zone", plan, x -> x.routeZone(0, 0));
        check.due("7 where it was", plan, 1, x -> x.zoneOf(0));
        check.due("7 with what it had", plan, 59, x -> x.energy(0));
        check.due("7 it may not step", plan, 0, x -> x.canStep(0) ? 1 : 0);
        check.due("7 it does not wait", plan.tick(20), 0, x -> x.waited(0));
        check.due("7 no order", plan, 1, x -> x.orders());
        check.due("7 one may come in front of it", plan, 1, x -> x.addVehicle(2, 60));
        check.due("7 it can be charged", plan.charger(1), 1, x -> x.charge(0));
        check.due("7 a new route", plan, 1, x -> x.assign(0, 0));
        check.due("7 the new route's zone", plan.assign(0, 0), 0, x -> x.routeZone(0, 0));
        check.due("7 one of two", Plan.busy().cancel(2), 2, x -> x.orders());
    }

    /** "its job, if it has one, is OPEN again." */
    private static void cancelOpensTheJob() {
        Plan plan = Plan.star(6).vehicle(1, 60).vehicle(2, 60).job(3).job(4).dispatch().dispatch();
        check.due("7 given", plan, GIVEN, x -> x.jobState(0));
        check.due("7 open", plan.cancel(0), OPEN, x -> x.jobState(0));
        check.due("7 nobody's", plan.cancel(0), NONE, x -> x.jobVehicle(0));
        check.due("7 not the other one", plan.cancel(0), GIVEN, x -> x.jobState(1));
        check.due("7 nor its vehicle", plan.cancel(0), 1, x -> x.jobVehicle(1));
        check.due("7 the other one", plan.cancel(1), OPEN, x -> x.jobState(1));
        check.due("7 not the first one", plan.cancel(1), GIVEN, x -> x.jobState(0));
        check.due("7 a regret again", plan.cancel(0), 1000, x -> x.regret(0));
        check.due("7 given again", plan.cancel(0), 0, x -> x.dispatch());
        check.due("7 by a later route it is not done", plan.cancel(0).assign(0, 3).tick(9), OPEN, x -> x.jobState(0));
        check.due("7 a later route's end does not open it", plan.cancel(0).dispatch().cancel(1), GIVEN,
                x -> x.jobState(0));
        check.due("7 one that is done stays so", plan.tick(20).assign(0, 1).cancel(0), DONE, x -> x.jobState(0));
        check.due("7 and stays its", plan.tick(20).assign(1, 2).cancel(1), 1, x -> x.jobVehicle(1));
        Plan without = Plan.line(3).vehicle(0, 60).job(3).assign(0, 3);
        check.sameAnswers("7 it has none", without.cancel(0), Plan.line(3).vehicle(0, 60).job(3));
        Plan other = Plan.star(6).vehicle(1, 60).vehicle(2, 60).job(3).dispatch().cancel(0).assign(0, 0);
        check.due("7 given to another one", other.thenTry(x -> x.cancel(0)).dispatch(), 0, x -> x.jobVehicle(0));
        check.due("7 to another one, and done by it", other.step(0).assign(0, 5).dispatch().tick(9), 1,
                x -> x.jobVehicle(0));
    }

    /** "Throws IndexOutOfBoundsException if there is no such vehicle". */
    private static void cancelRefusesNoVehicle() {
        for (Plan plan : Plan.states()) {
            for (int vehicle : Check.noVehicles(plan)) {
                check.refusesIndex("7 vehicle " + vehicle, plan, x -> x.cancel(vehicle));
            }
        }
    }

    /** "Throws IllegalStateException if it is idle". */
    private static void cancelRefusesAnIdleOne() {
        Plan plan = Plan.line(3).vehicle(0, 60);
        check.refusesState("7 it never had a route", plan, x -> x.cancel(0));
        check.refusesState("7 it is at its end", plan.assign(0, 3).tick(3), x -> x.cancel(0));
        check.refusesState("7 it was taken away", plan.assign(0, 3).cancel(0), x -> x.cancel(0));
        check.refusesState("7 its job is done", plan.job(3).dispatch().tick(3), x -> x.cancel(0));
        check.refusesState("7 beside busy ones", Plan.busy(), x -> x.cancel(3));
        check.refusesState("7 the sixth", Plan.full(), x -> x.cancel(5));
    }

    /** "or the plant would not be safe". */
    private static void cancelRefusesWhatIsNotSafe() {
        Plan first = Plan.line(9).vehicle(0, 60).vehicle(1, 60).assign(1, 9).assign(0, 4);
        check.refusesState("7 in the first zone of another route", first, x -> x.cancel(1));
        check.refusesState("7 between", first.step(1).step(1), x -> x.cancel(1));
        check.refusesState("7 in the last zone", first.step(1).step(1).step(1), x -> x.cancel(1));
        check.due("7 behind the last zone", first.step(1).step(1).step(1).step(1), 4, x -> x.cancel(1));
        check.due("7 the other one may", first, 4, x -> x.cancel(0));
        check.due("7 then it may", first.cancel(0), 8, x -> x.cancel(1));
        Plan job = Plan.line(9).vehicle(0, 60).vehicle(1, 60).job(9).dispatch().assign(0, 4);
        check.refusesState("7 with a job", job, x -> x.cancel(1));
        check.refusesState("7 beside busy ones", Plan.busy(), x -> x.cancel(1));
    }

    // ---- promise 8

    /** "Returns how much was charged": 0 to 60; "it has 60 energy then." */
    private static void chargeReturnsHowMuch() {
        for (int energy = 0; energy <= 60; energy++) {
            Plan plan = Plan.nothing().charger(7).vehicle(7, energy);
            check.due("8 charged", plan, 60 - energy, x -> x.charge(0));
            check.due("8 it has 60", plan.charge(0), 60, x -> x.energy(0));
            check.due("8 again", plan.charge(0), 0, x -> x.charge(0));
        }
        check.changesNothing("8 0 was charged", Plan.busy().step(0).charge(0), x -> x.charge(0));
        Plan two = Plan.nothing().charger(0).charger(19).vehicle(0, 3).vehicle(19, 4);
        check.due("8 not the other one", two.charge(0), 4, x -> x.energy(1));
        check.due("8 the other one", two.charge(0), 56, x -> x.charge(1));
        check.due("8 the fifth of six", Plan.full(), 20, x -> x.charge(4));
    }

    /** "Throws IndexOutOfBoundsException if there is no such vehicle". */
    private static void chargeRefusesNoVehicle() {
        for (Plan plan : Plan.states()) {
            for (int vehicle : Check.noVehicles(plan)) {
                check.refusesIndex("8 vehicle " + vehicle, plan, x -> x.charge(vehicle));
            }
        }
    }

    /** "Throws IllegalStateException if it is not idle". */
    private static void chargeRefusesOneThatIsNotIdle() {
        Plan plan = Plan.line(3).charger(0).charger(1).charger(2).vehicle(0, 9);
        check.due("8 idle", plan, 51, x -> x.charge(0));
        check.refusesState("8 at the start of its route", plan.assign(0, 2), x -> x.charge(0));
        check.refusesState("8 on its route", plan.assign(0, 2).step(0), x -> x.charge(0));
        check.due("8 at the end of its route", plan.assign(0, 2).tick(2), 53, x -> x.charge(0));
        check.due("8 its route was taken away", plan.assign(0, 2).step(0).cancel(0), 52, x -> x.charge(0));
        Plan full = Plan.line(3).charger(0).vehicle(0, 60).assign(0, 2);
        check.refusesState("8 with 60 energy", full, x -> x.charge(0));
    }

    /** "or not in a charger". */
    private static void chargeRefusesWithoutACharger() {
        for (int zone = 0; zone < 20; zone++) {
            int z = zone;
            int next = (zone + 1) % 20;
            check.refusesState("8 none in " + z, Plan.nothing().charger(next).vehicle(z, 9), x -> x.charge(0));
            check.due("8 one in " + z, Plan.nothing().charger(z).vehicle(z, 9), 51, x -> x.charge(0));
        }
        check.refusesState("8 none any more", Plan.line(1).charger(0).noCharger(0).vehicle(0, 9), x -> x.charge(0));
        check.refusesState("8 it has left it", Plan.line(1).charger(0).vehicle(0, 9).assign(0, 1).tick(1),
                x -> x.charge(0));
        check.refusesState("8 with 60 energy", Plan.line(1).vehicle(0, 60), x -> x.charge(0));
        check.refusesState("8 beside busy ones", Plan.busy(), x -> x.charge(3));
    }

    // ---- promise 9

    /** "it has a route". */
    private static void canStepNeedsARoute() {
        Plan plan = Plan.line(3).vehicle(0, 60);
        check.due("9 none", plan, 0, x -> x.canStep(0) ? 1 : 0);
        check.due("9 one", plan.assign(0, 1), 1, x -> x.canStep(0) ? 1 : 0);
        check.due("9 the last zone of one", plan.assign(0, 2).step(0), 1, x -> x.canStep(0) ? 1 : 0);
        check.due("9 at the end", plan.assign(0, 2).step(0).step(0), 0, x -> x.canStep(0) ? 1 : 0);
        check.due("9 taken away", plan.assign(0, 2).step(0).cancel(0), 0, x -> x.canStep(0) ? 1 : 0);
        check.due("9 the longest one", Plan.line(19).vehicle(19, 60).assign(0, 0), 1, x -> x.canStep(0) ? 1 : 0);
        for (int vehicle = 0; vehicle < 4; vehicle++) {
            int v = vehicle;
            check.changesNothing("9 it only asks " + v, Plan.busy(), x -> x.canStep(v) ? 1 : 0);
        }
    }

    /** "no vehicle is in the first zone of it". */
    private static void canStepNeedsAFreeZone() {
        Plan queue = Plan.line(5).vehicle(0, 60).vehicle(1, 60).assign(1, 5).assign(0, 4);
        check.due("9 a vehicle is there", queue, 0, x -> x.canStep(0) ? 1 : 0);
        check.due("9 none is there", queue, 1, x -> x.canStep(1) ? 1 : 0);
        check.due("9 one is in the second zone", queue.step(1), 1, x -> x.canStep(0) ? 1 : 0);
        check.due("9 it has come nearer", queue.step(1).step(0), 0, x -> x.canStep(0) ? 1 : 0);
        check.refusesState("9 so it may not step", queue, x -> x.step(0));
    }

    /** "and the plant would be safe behind the step". */
    private static void canStepNeedsASafePlant() {
        Plan meet = meeting();
        check.due("9 to the siding", meet, 1, x -> x.canStep(0) ? 1 : 0);
        check.due("9 towards it", meet, 1, x -> x.canStep(1) ? 1 : 0);
        check.due("9 in front of it", meet.step(1), 0, x -> x.canStep(1) ? 1 : 0);
        check.due("9 the other has come", meet.step(1).step(0), 0, x -> x.canStep(1) ? 1 : 0);
        check.due("9 the other is at the siding", meet.step(1).step(0).step(0), 0, x -> x.canStep(1) ? 1 : 0);
        check.due("9 the other is in it", meet.step(1).step(0).step(0).step(0), 1, x -> x.canStep(1) ? 1 : 0);
        check.due("9 a busy one", Plan.busy(), 0, x -> x.canStep(2) ? 1 : 0);
        Plan end = Plan.star(5).vehicle(1, 60).vehicle(2, 60).assign(1, 3).assign(0, 0);
        check.due("9 its last step, on the route of another", end, 0, x -> x.canStep(0) ? 1 : 0);
        check.due("9 the other one", end, 1, x -> x.canStep(1) ? 1 : 0);
        check.due("9 still in the middle", end.step(1), 0, x -> x.canStep(0) ? 1 : 0);
        check.due("9 when the other is through", end.step(1).step(1), 1, x -> x.canStep(0) ? 1 : 0);
        Plan alone = Plan.line(5).vehicle(0, 60).vehicle(5, 60).assign(0, 4);
        check.due("9 idle ones beside the route do not matter", alone, 1, x -> x.canStep(0) ? 1 : 0);
    }

    /** "Throws IndexOutOfBoundsException if there is no such vehicle". */
    private static void canStepRefusesNoVehicle() {
        for (Plan plan : Plan.states()) {
            for (int vehicle : Check.noVehicles(plan)) {
                check.refusesIndex("9 vehicle " + vehicle, plan, x -> x.canStep(vehicle) ? 1 : 0);
            }
        }
    }

    // ---- promise 10

    /** "Returns the zone in which it is then." */
    private static void stepReturnsTheZone() {
        Plan plan = Plan.line(19).vehicle(0, 60).assign(0, 19);
        for (int zone = 1; zone < 20; zone++) {
            int z = zone;
            check.due("10 zone", plan, z, x -> x.step(0));
            plan = plan.step(0);
            check.due("10 it is there", plan, z, x -> x.zoneOf(0));
            check.due("10 it has less energy", plan, 60 - z, x -> x.energy(0));
            check.due("10 less is left", plan, 19 - z, x -> x.routeLength(0));
        }
        check.due("10 to zone 0", Plan.line(1).vehicle(1, 1).assign(0, 0), 0, x -> x.step(0));
        check.due("10 with its last energy", Plan.line(1).vehicle(1, 1).assign(0, 0).step(0), 0, x -> x.energy(0));
        check.due("10 the others do not step", Plan.busy().step(1), 1, x -> x.zoneOf(0));
        check.due("10 a step is no wait", Plan.busy().step(1), 1, x -> x.waited(2));
    }

    /** "If it is idle behind that and has a job, the job is DONE." */
    private static void stepMakesTheJobDone() {
        Plan plan = Plan.line(4).vehicle(0, 60).job(2).dispatch();
        check.due("10 not idle yet", plan.step(0), GIVEN, x -> x.jobState(0));
        check.due("10 its vehicle", plan.step(0), 0, x -> x.jobVehicle(0));
        check.due("10 idle", plan.step(0).step(0), DONE, x -> x.jobState(0));
        check.due("10 by its vehicle", plan.step(0).step(0), 0, x -> x.jobVehicle(0));
        check.due("10 in one step", Plan.line(1).vehicle(0, 60).job(1).dispatch().step(0), DONE, x -> x.jobState(0));
        Plan noJob = Plan.line(4).vehicle(0, 60).job(2).assign(0, 2).step(0).step(0);
        check.due("10 it has no job", noJob, OPEN, x -> x.jobState(0));
        check.due("10 nobody has it", noJob, NONE, x -> x.jobVehicle(0));
        Plan later = plan.step(0).step(0).job(4).job(0).assign(0, 3).step(0);
        check.due("10 a later route has none", later, OPEN, x -> x.jobState(1));
        check.due("10 what is done stays so", later, DONE, x -> x.jobState(0));
        Plan two = Plan.star(6).vehicle(1, 60).vehicle(2, 60).job(3).job(4).dispatch().dispatch();
        Plan oneDone = two.step(0).step(0);
        check.due("10 just its own", oneDone, GIVEN, x -> x.jobState(1));
        check.due("10 just its own, the other one", oneDone.step(1).step(1), DONE, x -> x.jobState(1));
    }

    /** "Throws IndexOutOfBoundsException if there is no such vehicle". */
    private static void stepRefusesNoVehicle() {
        for (Plan plan : Plan.states()) {
            for (int vehicle : Check.noVehicles(plan)) {
                check.refusesIndex("10 vehicle " + vehicle, plan, x -> x.step(vehicle));
            }
        }
    }

    /** "Throws IllegalStateException if it may not step". */
    private static void stepRefusesOneThatMayNot() {
        Plan plan = Plan.line(3).vehicle(0, 60);
        check.refusesState("10 it never had a route", plan, x -> x.step(0));
        check.refusesState("10 it is at its end", plan.assign(0, 3).tick(3), x -> x.step(0));
        check.refusesState("10 it was taken away", plan.assign(0, 3).step(0).cancel(0), x -> x.step(0));
        check.refusesState("10 without energy", Plan.line(3).vehicle(0, 0), x -> x.step(0));
        check.refusesState("10 one is there", Plan.line(3).vehicle(0, 60).vehicle(1, 60).assign(1, 3).assign(0, 2),
                x -> x.step(0));
        check.refusesState("10 not safe", meeting().step(1), x -> x.step(1));
        check.refusesState("10 not safe, with a job", Plan.star(5).vehicle(1, 60).vehicle(2, 60).job(3).job(0)
                .assign(1, 3).dispatch(), x -> x.step(0));
        check.refusesState("10 a busy one", Plan.busy(), x -> x.step(2));
        check.refusesState("10 the sixth", Plan.full(), x -> x.step(5));
    }

    // ---- promise 11

    /** "Returns how many steps were made." */
    private static void tickReturnsHowManySteps() {
        check.due("11 none: no vehicles", Plan.line(5), 0, x -> x.tick(20));
        check.due("11 none: no route", Plan.line(5).vehicle(0, 60), 0, x -> x.tick(20));
        check.changesNothing("11 none", Plan.line(5).vehicle(0, 60), x -> x.tick(20));
        Plan six = Plan.nothing();
        for (int vehicle = 0; vehicle < 6; vehicle++) {
            six = six.lane(vehicle, vehicle + 6).lane(vehicle + 6, vehicle + 12).vehicle(vehicle, 60);
        }
        for (int vehicle = 0; vehicle < 6; vehicle++) {
            check.due("11 as many as have a route", six, vehicle, x -> x.tick(1));
            check.due("11 as many as they have zones", six, 2 * vehicle, x -> x.tick(20));
            six = six.assign(vehicle, vehicle + 12);
        }
        check.due("11 six", six, 6, x -> x.tick(1));
        check.due("11 six, twice", six, 12, x -> x.tick(2));
        check.due("11 one that waits is not counted", Plan.busy(), 2, x -> x.tick(1));
    }

    /** "ticks: 1 to 20". */
    private static void tickTakesOneToTwenty() {
        // Vehicle 0 leaves its siding in tick 19, when vehicle 1 has come to zone 0: so each of 20 ticks has its step.
        Plan plan = Plan.line(18).lane(19, 1).vehicle(19, 60).vehicle(18, 60).assign(1, 0).assign(0, 18);
        Plan ones = plan;
        for (int ticks = 1; ticks <= 20; ticks++) {
            int t = ticks;
            check.due("11 ticks " + t, plan, t, x -> x.tick(t));
            check.due("11 waited " + t, plan.tick(t), Math.min(t, 18), x -> x.waited(0));
            ones = ones.tick(1);
            check.sameAnswers("11 as single ticks " + t, plan.tick(t), ones);
        }
        check.due("11 one tick, one zone", Plan.line(19).vehicle(0, 60).assign(0, 19).tick(1), 1, x -> x.zoneOf(0));
        check.due("11 20 ticks, 19 zones", Plan.line(19).vehicle(0, 60).assign(0, 19), 19, x -> x.tick(20));
        check.due("11 19 ticks, 19 zones", Plan.line(19).vehicle(0, 60).assign(0, 19), 19, x -> x.tick(19));
        check.due("11 18 ticks, 18 zones", Plan.line(19).vehicle(0, 60).assign(0, 19), 18, x -> x.tick(18));
    }

    /** "In each tick the vehicles, by rising numbers, step if they may". */
    private static void tickGoesByRisingNumbers() {
        Plan lowBehind = Plan.line(9).vehicle(0, 60).vehicle(1, 60).vehicle(2, 60)
                .assign(2, 8).assign(1, 7).assign(0, 6);
        check.due("11 the lower ones are too early", lowBehind, 1, x -> x.tick(1));
        check.due("11 the second is in time then", lowBehind, 3, x -> x.tick(2));
        check.due("11 all of them then", lowBehind, 6, x -> x.tick(3));
        Plan highBehind = Plan.line(9).vehicle(2, 60).vehicle(1, 60).vehicle(0, 60)
                .assign(0, 8).assign(1, 7).assign(2, 6);
        check.due("11 each leaves its zone to the next", highBehind, 3, x -> x.tick(1));
        Plan cross = Plan.star(4).vehicle(1, 60).vehicle(2, 60).assign(0, 3).assign(1, 4);
        check.due("11 the lower one is first at the crossing", cross.tick(1), 0, x -> x.vehicleIn(0));
        check.due("11 the higher one in the next tick, but one", cross.tick(2), 1, x -> x.vehicleIn(0));
        Plan crossHigh = Plan.star(4).vehicle(1, 60).vehicle(2, 60).assign(1, 4).assign(0, 3);
        check.sameAnswers("11 not by the order of the routes", crossHigh.tick(1), cross.tick(1));
    }

    /** "one that has a route and may not waits." */
    private static void tickLetsVehiclesWait() {
        Plan queue = Plan.line(9).vehicle(0, 60).vehicle(1, 60).vehicle(9, 60).assign(1, 5).assign(0, 4);
        check.due("11 a vehicle is in its way", queue.tick(1), 1, x -> x.waited(0));
        check.due("11 it stays where it is", queue.tick(1), 0, x -> x.zoneOf(0));
        check.due("11 it takes no energy", queue.tick(1), 60, x -> x.energy(0));
        check.due("11 its route stays", queue.tick(1), 4, x -> x.routeLength(0));
        check.due("11 one that steps does not wait", queue.tick(1), 0, x -> x.waited(1));
        check.due("11 one without a route does not wait", queue.tick(20), 0, x -> x.waited(2));
        check.due("11 nor one at its end", queue.tick(20), 0, x -> x.waited(1));
        check.due("11 it waits no more when it may step", queue.tick(20), 1, x -> x.waited(0));
        check.due("11 not safe: it waits", meeting().step(1).tick(2), 2, x -> x.waited(1));
        check.due("11 the last step: it does not wait", Plan.line(1).vehicle(0, 9).assign(0, 1).tick(1), 0,
                x -> x.waited(0));
    }

    /** A step of a tick is a step: "If it is idle behind that and has a job, the job is DONE." */
    private static void tickMakesJobsDone() {
        Plan plan = Plan.line(4).vehicle(0, 60).job(2).dispatch();
        check.due("11 not yet", plan.tick(1), GIVEN, x -> x.jobState(0));
        check.due("11 then", plan.tick(2), DONE, x -> x.jobState(0));
        check.sameAnswers("11 as by steps", plan.tick(2), plan.step(0).step(0));
        check.due("11 it gets no new one by itself", plan.job(3).tick(20), OPEN, x -> x.jobState(1));
    }

    /** "Throws IllegalArgumentException if ticks is out of range". */
    private static void tickRefusesOtherTicks() {
        int[] wrong = {0, 21, -1, -20, 22, 256, 257, 65537, Integer.MIN_VALUE, Integer.MAX_VALUE};
        for (Plan plan : Plan.states()) {
            for (int ticks : wrong) {
                check.refusesArgument("11 " + ticks, plan, x -> x.tick(ticks));
            }
        }
    }
}
