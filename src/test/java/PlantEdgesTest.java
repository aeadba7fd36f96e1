/** Promises 1 to 4, a new object and the plant: each sentence that names a boundary case has a test of its own. */
public final class PlantEdgesTest {
    private static final int NONE = ZoneController.NONE;

    private static final Check check = new Check();

    public static void main(String[] args) {
        check.part("1 lanes", PlantEdgesTest::newObjectHasNoLanes);
        check.part("1 vehicles", PlantEdgesTest::newObjectHasNoVehicles);
        check.part("1 jobs", PlantEdgesTest::newObjectHasNoJobs);
        check.part("1 another", PlantEdgesTest::newObjectsShareNothing);
        check.part("2 returns", PlantEdgesTest::addLaneReturnsHowMany);
        check.part("2 no zone", PlantEdgesTest::addLaneRefusesNoZone);
        check.part("2 same", PlantEdgesTest::addLaneRefusesTheSame);
        check.part("2 is there", PlantEdgesTest::addLaneRefusesASecondOne);
        check.part("3 returns", PlantEdgesTest::setChargerReturnsWhetherItWas);
        check.part("3 one more, none any more", PlantEdgesTest::setChargerMakesOrUnmakes);
        check.part("3 no zone", PlantEdgesTest::setChargerRefusesNoZone);
        check.part("4 returns", PlantEdgesTest::distanceReturnsTheDistance);
        check.part("4 no way", PlantEdgesTest::distanceReturnsNoneWithoutAWay);
        check.part("4 no zone", PlantEdgesTest::distanceRefusesNoZone);
        check.end();
    }

    /** Promise 1: "Zones without lanes". */
    private static void newObjectHasNoLanes() {
        Plan plan = Plan.nothing();
        for (int one = 0; one < 20; one++) {
            for (int other = 0; other < 20; other++) {
                int from = one;
                int to = other;
                check.due("1 no way " + one + " " + other, plan, one == other ? 0 : NONE, x -> x.distance(from, to));
                if (one != other) {
                    check.due("1 no lane " + one + " " + other, plan, 1, x -> x.addLane(from, to));
                }
            }
        }
    }

    /** Promise 1: "no vehicles". */
    private static void newObjectHasNoVehicles() {
        Plan plan = Plan.nothing();
        check.due("1 none", plan, 0, x -> x.vehicles());
        check.due("1 one order of none", plan, 1, x -> x.orders());
        check.due("1 no steps", plan, 0, x -> x.tick(1));
        check.due("1 no steps in 20 ticks", plan, 0, x -> x.tick(20));
        check.due("1 the first one has the number 0", plan, 0, x -> x.addVehicle(19, 0));
        for (int zone = 0; zone < 20; zone++) {
            int z = zone;
            check.due("1 none in " + z, plan, NONE, x -> x.vehicleIn(z));
        }
        for (int vehicle = -1; vehicle < 7; vehicle++) {
            int v = vehicle;
            check.refusesIndex("1 assign " + v, plan, x -> x.assign(v, 0));
            check.refusesIndex("1 cancel " + v, plan, x -> x.cancel(v));
            check.refusesIndex("1 charge " + v, plan, x -> x.charge(v));
            check.refusesIndex("1 canStep " + v, plan, x -> x.canStep(v) ? 1 : 0);
            check.refusesIndex("1 step " + v, plan, x -> x.step(v));
            check.refusesIndex("1 zoneOf " + v, plan, x -> x.zoneOf(v));
            check.refusesIndex("1 routeLength " + v, plan, x -> x.routeLength(v));
            check.refusesIndex("1 routeZone " + v, plan, x -> x.routeZone(v, 0));
            check.refusesIndex("1 energy " + v, plan, x -> x.energy(v));
            check.refusesIndex("1 waited " + v, plan, x -> x.waited(v));
            check.refusesArgument("1 finisher " + v, plan, x -> x.finisher(v));
        }
    }

    /** Promise 1, and "Jobs are numbered from 0": there is none yet. */
    private static void newObjectHasNoJobs() {
        Plan plan = Plan.nothing();
        check.due("1 none to give", plan, NONE, x -> x.dispatch());
        check.due("1 the first one has the number 0", plan, 0, x -> x.addJob(19));
        for (int job = -1; job < 21; job++) {
            int j = job;
            check.refusesIndex("1 jobState " + j, plan, x -> x.jobState(j));
            check.refusesIndex("1 jobVehicle " + j, plan, x -> x.jobVehicle(j));
            check.refusesIndex("1 regret " + j, plan, x -> x.regret(j));
        }
    }

    private static void newObjectsShareNothing() {
        ZoneController other = Plan.full().make();
        check.sameAnswers("1 beside another object", Plan.nothing().then(x -> other.tick(1)), Plan.nothing());
        ZoneController first = Plan.line(2).vehicle(0, 5).job(2).make();
        ZoneController second = Plan.line(2).vehicle(1, 6).make();
        check.same("1 given in one", first.dispatch(), 0);
        check.same("1 not in the other", second.dispatch(), NONE);
        check.same("1 in its zone", first.zoneOf(0), 0);
        check.same("1 in its zone, the other", second.zoneOf(0), 1);
        check.same("1 steps in one", first.tick(2), 2);
        check.same("1 not in the other", second.tick(2), 0);
    }

    /** Promise 2: "Returns how many lanes there are then." */
    private static void addLaneReturnsHowMany() {
        ZoneController x = new ZoneController();
        int lanes = 0;
        for (int far = 19; far > 0; far--) {
            for (int one = 0; one + far < 20; one++) {
                lanes++;
                check.same("2 lane " + lanes, x.addLane(one + far, one), lanes);
            }
        }
        check.same("2 every pair of zones", lanes, 190);
        Plan three = Plan.line(3);
        check.due("2 a refused one is not counted", three.thenTry(y -> y.addLane(1, 2)), 4, y -> y.addLane(0, 3));
        check.due("2 nor one to no zone", three.thenTry(y -> y.addLane(1, 20)), 4, y -> y.addLane(0, 3));
        check.due("2 nor one to itself", three.thenTry(y -> y.addLane(1, 1)), 4, y -> y.addLane(0, 3));
        check.due("2 the last pair", Plan.allLanesBut(0, 19), 190, y -> y.addLane(19, 0));
    }

    /** Promise 2: "Throws IllegalArgumentException if one or other is no zone". */
    private static void addLaneRefusesNoZone() {
        for (Plan plan : Plan.states()) {
            for (int zone : Check.NO_ZONES) {
                check.refusesArgument("2 one " + zone, plan, x -> x.addLane(zone, 13));
                check.refusesArgument("2 other " + zone, plan, x -> x.addLane(13, zone));
                check.refusesArgument("2 both " + zone, plan, x -> x.addLane(zone, zone));
            }
            check.refusesArgument("2 below and above", plan, x -> x.addLane(-1, 20));
        }
        check.refusesArgument("2 all lanes are there", Plan.allLanes(), x -> x.addLane(20, 0));
    }

    /** Promise 2: "or both are the same". */
    private static void addLaneRefusesTheSame() {
        for (int zone = 0; zone < 20; zone++) {
            int z = zone;
            check.refusesArgument("2 same " + z, Plan.nothing(), x -> x.addLane(z, z));
            check.refusesArgument("2 same, of a line " + z, Plan.line(19), x -> x.addLane(z, z));
            check.refusesArgument("2 same, busy " + z, Plan.busy(), x -> x.addLane(z, z));
        }
        check.refusesArgument("2 same, all lanes are there", Plan.allLanes(), x -> x.addLane(19, 19));
    }

    /** Promise 2: "Throws IllegalStateException if there is a lane between them". */
    private static void addLaneRefusesASecondOne() {
        for (int zone = 0; zone < 19; zone++) {
            int z = zone;
            check.refusesState("2 again " + z, Plan.line(19), x -> x.addLane(z, z + 1));
            check.refusesState("2 the other way round " + z, Plan.line(19), x -> x.addLane(z + 1, z));
            if (z < 18) {
                check.due("2 two lanes are no lane " + z, Plan.line(19), 20, x -> x.addLane(z, z + 2));
            }
        }
        check.refusesState("2 all lanes are there", Plan.allLanes(), x -> x.addLane(0, 19));
        check.refusesState("2 under a route", Plan.busy(), x -> x.addLane(4, 5));
        check.due("2 beside a route", Plan.busy(), 11, x -> x.addLane(9, 5));
    }

    /** Promise 3: "Returns whether it was one." */
    private static void setChargerReturnsWhetherItWas() {
        for (int zone = 0; zone < 20; zone++) {
            int z = zone;
            Plan none = Plan.nothing();
            check.due("3 none, to be one " + z, none, 0, x -> x.setCharger(z, true) ? 1 : 0);
            check.due("3 none, to be none " + z, none, 0, x -> x.setCharger(z, false) ? 1 : 0);
            check.due("3 one, to be one " + z, none.charger(z), 1, x -> x.setCharger(z, true) ? 1 : 0);
            check.due("3 one, to be none " + z, none.charger(z), 1, x -> x.setCharger(z, false) ? 1 : 0);
            Plan twice = none.charger(z).charger(z);
            check.due("3 one twice, to be none " + z, twice, 1, x -> x.setCharger(z, false) ? 1 : 0);
            check.due("3 none any more " + z, twice.noCharger(z), 0, x -> x.setCharger(z, false) ? 1 : 0);
            check.due("3 the next is none " + z, none.charger(z), 0, x -> x.setCharger((z + 1) % 20, true) ? 1 : 0);
        }
    }

    /** Promise 3: "Makes a zone a charger, or none any more." */
    private static void setChargerMakesOrUnmakes() {
        Plan plan = Plan.line(4).vehicle(1, 3);
        check.due("3 under a vehicle", plan.charger(1), 57, x -> x.charge(0));
        check.refusesState("3 not any more", plan.charger(1).noCharger(1), x -> x.charge(0));
        check.due("3 once more", plan.charger(1).noCharger(1).charger(1), 57, x -> x.charge(0));
        check.refusesState("3 it counts for energy", plan.charger(1), x -> x.assign(0, 3));
        check.due("3 not any more", plan.charger(1).noCharger(1), 2, x -> x.assign(0, 3));
        check.changesNothing("3 what it was", Plan.busy(), x -> x.setCharger(6, true) ? 1 : 0);
        check.changesNothing("3 none, and it was none", Plan.busy(), x -> x.setCharger(5, false) ? 1 : 0);
        check.changesNothing("3 there and back", Plan.busy().charger(3), x -> x.setCharger(3, true) ? 1 : 0);
        Plan thereAndBack = Plan.busy().charger(3).noCharger(3);
        check.sameAnswers("3 there and back", thereAndBack, Plan.busy());
        Plan going = plan.assign(0, 4).charger(1);
        check.due("3 a route that was given stays", going.tick(20), 4, x -> x.zoneOf(0));
    }

    /** Promise 3: "Throws IllegalArgumentException if zone is no zone". */
    private static void setChargerRefusesNoZone() {
        for (Plan plan : Plan.states()) {
            for (int zone : Check.NO_ZONES) {
                check.refusesArgument("3 one " + zone, plan, x -> x.setCharger(zone, true) ? 1 : 0);
                check.refusesArgument("3 none " + zone, plan, x -> x.setCharger(zone, false) ? 1 : 0);
            }
        }
    }

    /** Promise 4: "Returns the distance": from 0 to 19. */
    private static void distanceReturnsTheDistance() {
        for (int one = 0; one < 20; one++) {
            for (int other = 0; other < 20; other++) {
                int from = one;
                int to = other;
                int far = Math.abs(one - other);
                check.due("4 line " + one + " " + other, Plan.line(19), far, x -> x.distance(from, to));
                check.due("4 all lanes " + one + " " + other, Plan.allLanes(), from == to ? 0 : 1,
                        x -> x.distance(from, to));
            }
        }
        check.changesNothing("4 it only asks", Plan.busy(), x -> x.distance(0, 12));
    }

    /** Promise 4: "NONE if there is no way." */
    private static void distanceReturnsNoneWithoutAWay() {
        Plan star = Plan.star(18);
        for (int zone = 0; zone < 19; zone++) {
            int z = zone;
            check.due("4 to a lone zone " + z, star, NONE, x -> x.distance(z, 19));
            check.due("4 from a lone zone " + z, star, NONE, x -> x.distance(19, z));
            check.due("4 not alone any more " + z, star.lane(19, 18), z == 18 ? 1 : z == 0 ? 2 : 3,
                    x -> x.distance(19, z));
        }
    }

    /** Promise 4: "Throws IllegalArgumentException if one or other is no zone". */
    private static void distanceRefusesNoZone() {
        for (Plan plan : Plan.states()) {
            for (int zone : Check.NO_ZONES) {
                check.refusesArgument("4 one " + zone, plan, x -> x.distance(zone, 0));
                check.refusesArgument("4 other " + zone, plan, x -> x.distance(19, zone));
                check.refusesArgument("4 both " + zone, plan, x -> x.distance(zone, zone));
            }
            check.refusesArgument("4 below and above", plan, x -> x.distance(-1, 20));
        }
    }
}
