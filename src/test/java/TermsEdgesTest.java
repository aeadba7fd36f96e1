/** The sentences under 'Terms' that name a boundary case, each with a test of its own. */
public final class TermsEdgesTest {
    private static final int NONE = ZoneController.NONE;
    private static final int OPEN = ZoneController.OPEN;
    private static final int GIVEN = ZoneController.GIVEN;
    private static final int DONE = ZoneController.DONE;

    private static final Check check = new Check();

    public static void main(String[] args) {
        check.part("zones 0 to 19", TermsEdgesTest::zones0To19);
        check.part("lanes both ways", TermsEdgesTest::lanesBothWays);
        check.part("one vehicle in a zone", TermsEdgesTest::oneVehicleInAZone);
        check.part("no chargers at first", TermsEdgesTest::noChargersAtFirst);
        check.part("least number of lanes", TermsEdgesTest::leastNumberOfLanes);
        check.part("0 from a zone to itself", TermsEdgesTest::zeroToItself);
        check.part("no way", TermsEdgesTest::noWay);
        check.part("at most 6 vehicles", TermsEdgesTest::atMostSixVehicles);
        check.part("energy 0 to 60", TermsEdgesTest::energy0To60);
        check.part("joined routes", TermsEdgesTest::routesAreJoined);
        check.part("idle", TermsEdgesTest::idleWithoutARoute);
        check.part("fewest lanes", TermsEdgesTest::wayWithTheFewestLanes);
        check.part("lowest zone", TermsEdgesTest::wayOfTheLowestZone);
        check.part("others on the way", TermsEdgesTest::othersOnTheWayDoNotMatter);
        check.part("a step", TermsEdgesTest::aStep);
        check.part("none in the zones of its route", TermsEdgesTest::noneInTheZonesOfTheRoute);
        check.part("then in the last zone", TermsEdgesTest::thenInTheLastZone);
        check.part("an order of all", TermsEdgesTest::anOrderOfAll);
        check.part("no vehicle has a route", TermsEdgesTest::safeIfNoVehicleHasARoute);
        check.part("always safe", TermsEdgesTest::whatWouldBeUnsafeIsRefused);
        check.part("energy for the way alone", TermsEdgesTest::energyForTheWayAlone);
        check.part("energy with a charger", TermsEdgesTest::energyWithACharger);
        check.part("charger not reached", TermsEdgesTest::chargerThatCanNotBeReached);
        check.part("at most 20 jobs", TermsEdgesTest::atMostTwentyJobs);
        check.part("open, given, done", TermsEdgesTest::openGivenOrDone);
        check.part("can take", TermsEdgesTest::canTakeAJob);
        check.part("regret", TermsEdgesTest::regretOfTheTwoLeast);
        check.part("regret 0", TermsEdgesTest::regretOfNothing);
        check.part("regret 1000", TermsEdgesTest::regretWithJustOne);
        check.part("no regret", TermsEdgesTest::noRegret);
        check.part("first exception", TermsEdgesTest::theFirstExceptionOfSeveral);
        check.part("512 calls", TermsEdgesTest::atMost512Calls);
        check.end();
    }

    /** "There are 20 zones, 0 to 19." */
    private static void zones0To19() {
        for (int zone = 0; zone < 20; zone++) {
            int z = zone;
            int next = (zone + 1) % 20;
            Plan one = Plan.nothing();
            check.due("a lane from " + z, one, 1, x -> x.addLane(z, next));
            check.due("a lane to " + z, one, 1, x -> x.addLane(next, z));
            check.due("a charger " + z, one.charger(z), 1, x -> x.setCharger(z, true) ? 1 : 0);
            check.due("distance from " + z, one.lane(z, next), 1, x -> x.distance(z, next));
            check.due("distance to " + z, one.lane(z, next), 1, x -> x.distance(next, z));
            check.due("a vehicle in " + z, one, 0, x -> x.addVehicle(z, 7));
            check.due("to find in " + z, one.vehicle(z, 7), 0, x -> x.vehicleIn(z));
            check.due("in its zone " + z, one.vehicle(z, 7), z, x -> x.zoneOf(0));
            check.due("a route to " + z, one.lane(z, next).vehicle(next, 7), 1, x -> x.assign(0, z));
            check.due("a route from " + z, one.lane(z, next).vehicle(z, 7), 1, x -> x.assign(0, next));
            check.due("a step to " + z, one.lane(z, next).vehicle(next, 7).assign(0, z), z, x -> x.step(0));
            check.due("a job at " + z, one, 0, x -> x.addJob(z));
            check.due("its vehicle " + z, one.lane(z, next).vehicle(next, 7).job(z), 0, x -> x.dispatch());
        }
    }

    /** "A lane joins two zones, both ways." */
    private static void lanesBothWays() {
        for (int one = 0; one < 20; one++) {
            for (int other = 0; other < 20; other++) {
                if (one == other) continue;
                int from = one;
                int to = other;
                Plan plan = Plan.nothing().lane(one, other);
                check.due("there " + one + " " + other, plan, 1, x -> x.distance(from, to));
                check.due("back " + one + " " + other, plan, 1, x -> x.distance(to, from));
                check.due("a route there", plan.vehicle(one, 1), 1, x -> x.assign(0, to));
                check.due("a route back", plan.vehicle(other, 1), 1, x -> x.assign(0, from));
                check.refusesState("a lane the other way round", plan, x -> x.addLane(to, from));
            }
        }
    }

    /** "In a zone there is at most one vehicle." */
    private static void oneVehicleInAZone() {
        Plan plan = Plan.line(4).vehicle(1, 60);
        check.refusesState("an idle one is there", plan, x -> x.addVehicle(1, 60));
        check.refusesState("one that is to leave is there", plan.assign(0, 4), x -> x.addVehicle(1, 60));
        check.due("one has left", plan.assign(0, 4).step(0), 1, x -> x.addVehicle(1, 60));
        check.refusesState("one has come", plan.assign(0, 2).step(0), x -> x.addVehicle(2, 60));
        Plan queue = Plan.line(4).vehicle(0, 60).vehicle(1, 60).assign(1, 4).assign(0, 3);
        check.refusesState("no step to another vehicle", queue, x -> x.step(0));
        check.due("nor by a tick", queue.tick(1), 0, x -> x.zoneOf(0));
        check.due("it steps when the other has left", queue.step(1), 1, x -> x.step(0));
    }

    /** "Some zones are chargers, at first none." */
    private static void noChargersAtFirst() {
        Plan all = Plan.nothing();
        for (int zone = 0; zone < 20; zone++) {
            int z = zone;
            check.due("at first " + z, Plan.nothing(), 0, x -> x.setCharger(z, false) ? 1 : 0);
            check.refusesState("nothing charges " + z, Plan.nothing().vehicle(z, 7), x -> x.charge(0));
            all = all.charger(zone);
        }
        for (int zone = 0; zone < 20; zone++) {
            int z = zone;
            check.due("all of them " + z, all, 1, x -> x.setCharger(z, true) ? 1 : 0);
            check.due("all of them charge " + z, all.vehicle(z, 7), 53, x -> x.charge(0));
        }
    }

    /** "The distance of two zones is the least number of lanes of a way from one to the other". */
    private static void leastNumberOfLanes() {
        check.due("the most", Plan.line(19), 19, x -> x.distance(0, 19));
        check.due("the most, back", Plan.line(19), 19, x -> x.distance(19, 0));
        check.due("a ring, half of it", Plan.line(19).lane(19, 0), 10, x -> x.distance(0, 10));
        check.due("a ring, the short way", Plan.line(19).lane(19, 0), 9, x -> x.distance(0, 11));
        check.due("a lane makes it less", Plan.line(19).lane(1, 18), 3, x -> x.distance(0, 19));
        check.due("one lane", Plan.line(19).lane(0, 19), 1, x -> x.distance(0, 19));
        check.due("two lanes", Plan.allLanesBut(3, 7), 2, x -> x.distance(3, 7));
        check.due("vehicles do not matter", Plan.line(4).vehicle(1, 5).vehicle(3, 5), 4, x -> x.distance(0, 4));
        check.due("nor do routes", Plan.line(4).vehicle(1, 5).assign(0, 3), 4, x -> x.distance(4, 0));
    }

    /** "0 from a zone to itself". */
    private static void zeroToItself() {
        for (int zone = 0; zone < 20; zone++) {
            int z = zone;
            check.due("without lanes " + z, Plan.nothing(), 0, x -> x.distance(z, z));
            check.due("in a line " + z, Plan.line(19), 0, x -> x.distance(z, z));
            check.due("with all lanes " + z, Plan.allLanes(), 0, x -> x.distance(z, z));
            check.due("with a vehicle " + z, Plan.nothing().vehicle(z, 5), 0, x -> x.distance(z, z));
        }
    }

    /** "there may be no way". */
    private static void noWay() {
        Plan parts = Plan.nothing().lane(0, 1).lane(2, 3);
        check.due("without lanes", Plan.nothing(), NONE, x -> x.distance(0, 19));
        check.due("from one part to another", parts, NONE, x -> x.distance(1, 2));
        check.due("and back", parts, NONE, x -> x.distance(3, 0));
        check.due("over two such parts", parts, NONE, x -> x.distance(4, 19));
        check.due("joined", parts.lane(1, 2), 3, x -> x.distance(0, 3));
        check.due("joined in a long line but for one", Plan.line(18), NONE, x -> x.distance(0, 19));
        check.refusesState("no route", parts.vehicle(0, 60), x -> x.assign(0, 3));
        check.due("a route when they are joined", parts.vehicle(0, 60).lane(1, 2), 3, x -> x.assign(0, 3));
    }

    /** "Vehicles are numbered from 0; there are at most 6." */
    private static void atMostSixVehicles() {
        Plan plan = Plan.nothing();
        for (int vehicle = 0; vehicle < 6; vehicle++) {
            int zone = 19 - vehicle;
            check.due("number " + vehicle, plan, vehicle, x -> x.addVehicle(zone, 9));
            plan = plan.vehicle(zone, 9);
            check.due("in its zone " + vehicle, plan, vehicle, x -> x.vehicleIn(zone));
        }
        check.refusesState("a seventh", plan, x -> x.addVehicle(0, 9));
        check.due("still six", plan.thenTry(x -> x.addVehicle(0, 9)), 6, x -> x.vehicles());
        check.refusesState("a seventh beside the busy ones", Plan.full(), x -> x.addVehicle(0, 9));
    }

    /** "A vehicle [..] has energy, 0 to 60". */
    private static void energy0To60() {
        check.due("0", Plan.nothing().vehicle(0, 0), 0, x -> x.energy(0));
        check.due("1", Plan.nothing().vehicle(0, 1), 1, x -> x.energy(0));
        check.due("59", Plan.nothing().vehicle(0, 59), 59, x -> x.energy(0));
        check.due("60", Plan.nothing().vehicle(0, 60), 60, x -> x.energy(0));
        Plan last = Plan.line(2).vehicle(0, 1).assign(0, 1).step(0);
        check.due("the last one goes", last, 0, x -> x.energy(0));
        check.refusesState("never below 0", last, x -> x.assign(0, 2));
        check.due("and there it stays", last.tick(20), 0, x -> x.energy(0));
        check.due("charged it is 60", last.charger(1).charge(0), 60, x -> x.energy(0));
        check.due("never above 60", last.charger(1).charge(0).charge(0), 60, x -> x.energy(0));
    }

    /** "the zones that it has still to go to, in their order, each joined by a lane to the one before, the first .." */
    private static void routesAreJoined() {
        int[] lanes = {7, 3, 3, 18, 18, 0, 0, 12, 12, 19, 19, 5};
        Plan plan = Plan.nothing();
        for (int at = 0; at < lanes.length; at += 2) {
            plan = plan.lane(lanes[at], lanes[at + 1]);
        }
        ZoneController x = plan.vehicle(7, 60).make();
        x.assign(0, 5);
        int[] way = {3, 18, 0, 12, 19, 5};
        for (int made = 0; made < way.length; made++) {
            check.same("left behind " + made, x.routeLength(0), way.length - made);
            for (int place = 0; place < way.length - made; place++) {
                check.same("place " + place + " behind " + made, x.routeZone(0, place), way[made + place]);
            }
            check.same("joined to where it is, behind " + made, x.distance(x.zoneOf(0), x.routeZone(0, 0)), 1);
            check.same("step", x.step(0), way[made]);
        }
    }

    /** "A vehicle without a route is idle." */
    private static void idleWithoutARoute() {
        Plan plan = Plan.line(3).vehicle(0, 60);
        Plan[] idle = {plan, plan.assign(0, 1).step(0), plan.assign(0, 3).cancel(0), plan.assign(0, 2).tick(2)};
        for (Plan one : idle) {
            check.due("no zones", one, 0, x -> x.routeLength(0));
            check.due("it may not step", one, 0, x -> x.canStep(0) ? 1 : 0);
            check.due("it can get a route", one, 3 - one.make().zoneOf(0), x -> x.assign(0, 3));
            check.due("it is in no order", one, 1, x -> x.orders());
            check.refusesArgument("nobody finishes", one, x -> x.finisher(0));
            check.refusesState("nothing to cancel", one, x -> x.cancel(0));
        }
        check.refusesState("one with a last zone to go to is not idle", plan.assign(0, 2).step(0), x -> x.assign(0, 3));
        check.due("it goes there", plan.assign(0, 2).step(0), 1, x -> x.cancel(0));
    }

    private static void way(String what, Plan plan, int to, int... zones) {
        ZoneController x = plan.make();
        check.same(what + ": length", x.assign(0, to), zones.length);
        for (int place = 0; place < zones.length; place++) {
            check.same(what + ": place " + place, x.routeZone(0, place), zones[place]);
        }
    }

    /** "Its way to a zone is the one with the fewest lanes". */
    private static void wayWithTheFewestLanes() {
        Plan plan = Plan.nothing().lane(0, 1).lane(1, 2).lane(2, 3).lane(0, 19).lane(19, 3).vehicle(0, 60);
        way("two high lanes before three low ones", plan, 3, 19, 3);
        way("one lane before two", plan.lane(0, 3), 3, 3);
        way("a single way", Plan.line(3).vehicle(0, 60), 3, 1, 2, 3);
    }

    /** "of several the one that goes on to the lowest zone at the first place at which they differ". */
    private static void wayOfTheLowestZone() {
        Plan first = Plan.nothing().lane(9, 4).lane(9, 3).lane(4, 1).lane(3, 18).lane(1, 10).lane(18, 10);
        way("the first zone counts, not the second", first.vehicle(9, 60), 10, 3, 18, 10);
        way("seen from where it is: back another way", first.vehicle(10, 60), 9, 1, 4, 9);
        Plan second = Plan.nothing().lane(0, 5).lane(5, 8).lane(5, 7).lane(8, 2).lane(7, 3).lane(2, 9).lane(3, 9);
        way("the second zone", second.vehicle(0, 60), 9, 5, 7, 3, 9);
        Plan last = Plan.line(3).lane(3, 19).lane(3, 18).lane(19, 10).lane(18, 10).vehicle(0, 60);
        way("the last zone but one", last, 10, 1, 2, 3, 18, 10);
        Plan many = Plan.nothing();
        for (int zone = 19; zone > 1; zone--) {
            many = many.lane(1, zone).lane(zone, 0);
        }
        way("of eighteen ways, to zone 0", many.vehicle(1, 60), 0, 2, 0);
        way("of eighteen ways, from zone 0", many.vehicle(0, 60), 1, 2, 1);
        Plan zero = Plan.nothing().lane(9, 1).lane(9, 0).lane(1, 8).lane(0, 8).vehicle(9, 60);
        way("zone 0 is the lowest", zero, 8, 0, 8);
    }

    /** "It does not matter for this whether other vehicles stand on it." */
    private static void othersOnTheWayDoNotMatter() {
        Plan plan = Plan.nothing().lane(0, 1).lane(1, 3).lane(0, 2).lane(2, 3).vehicle(0, 60).vehicle(1, 60);
        check.refusesState("no other way is looked for", plan, x -> x.assign(0, 3));
        check.due("though it were free", plan, 1, x -> x.assign(0, 2));
        way("one that will leave", plan.lane(1, 9).assign(1, 9), 3, 1, 3);
        Plan end = Plan.nothing().lane(0, 1).lane(1, 3).lane(0, 2).lane(2, 3).vehicle(0, 60).vehicle(2, 60);
        way("one that stands on another way", end, 3, 1, 3);
    }

    /** "A step takes a vehicle to the first zone of its route, which is no longer part of it then, and takes 1 .." */
    private static void aStep() {
        Plan plan = Plan.line(3).vehicle(0, 9).vehicle(3, 9).assign(0, 2);
        check.due("to the first zone", plan, 1, x -> x.step(0));
        check.due("no longer part of the route", plan.step(0), 1, x -> x.routeLength(0));
        check.due("the next one is the first then", plan.step(0), 2, x -> x.routeZone(0, 0));
        check.due("takes 1", plan.step(0), 8, x -> x.energy(0));
        check.due("of its energy", plan.step(0), 9, x -> x.energy(1));
        check.due("idle behind the last one, not before", plan.step(0), 1, x -> x.canStep(0) ? 1 : 0);
        check.due("idle behind the last one", plan.step(0).step(0), 0, x -> x.routeLength(0));
        check.due("idle: a new route", plan.step(0).step(0), 2, x -> x.assign(0, 0));
    }

    /** "A vehicle can run through if none of the zones of its route has another vehicle in it". */
    private static void noneInTheZonesOfTheRoute() {
        Plan plan = Plan.line(5).vehicle(1, 60);
        for (int zone = 2; zone <= 4; zone++) {
            int z = zone;
            check.refusesState("an idle one in " + z, plan.vehicle(z, 60), x -> x.assign(0, 4));
            check.refusesState("then one into " + z, plan.assign(0, 4), x -> x.addVehicle(z, 60));
        }
        for (int zone : new int[] {0, 5, 19}) {
            int z = zone;
            check.due("an idle one in " + z, plan.vehicle(z, 60), 3, x -> x.assign(0, 4));
            check.due("then one into " + z, plan.assign(0, 4), 1, x -> x.addVehicle(z, 60));
        }
        check.due("its own zone does not count", plan.assign(0, 4), 1, x -> x.orders());
        Plan going = plan.lane(2, 9).lane(4, 10).vehicle(2, 60).assign(1, 9);
        check.due("one with a route counts until it is through", going.assign(0, 4), 1, x -> x.orders());
        check.due("so it has to be first", going.assign(0, 4), 1, x -> x.finisher(0));
        check.due("in the last zone too", plan.lane(4, 10).vehicle(4, 60).assign(1, 10).assign(0, 4), 1,
                x -> x.finisher(0));
        check.due("zones left behind do not count", plan.assign(0, 4).step(0).step(0), 1, x -> x.addVehicle(2, 60));
    }

    /** "then it is in the last zone of its route". */
    private static void thenInTheLastZone() {
        Plan star = Plan.star(5).vehicle(1, 60).vehicle(2, 60).assign(1, 3);
        check.due("it may end on the route of the other", star, 1, x -> x.assign(0, 0));
        check.due("behind the other", star.assign(0, 0), 1, x -> x.orders());
        check.due("the other is first", star.assign(0, 0), 1, x -> x.finisher(0));
        check.due("it is not in the zones between then", star.assign(0, 4), 2, x -> x.orders());
        check.refusesState("nor may two end in one zone", star, x -> x.assign(0, 3));
        Plan from = Plan.line(3).vehicle(0, 60).vehicle(1, 60).assign(1, 3);
        check.due("where it was is free then", from, 2, x -> x.assign(0, 2));
        check.refusesState("but not where it is then", from, x -> x.assign(0, 3));
    }

    /** "The plant is safe if there is an order of all vehicles with a route in which they can run through .." */
    private static void anOrderOfAll() {
        Plan queue = Plan.line(19);
        for (int vehicle = 0; vehicle < 6; vehicle++) {
            queue = queue.vehicle(vehicle, 60);
        }
        for (int vehicle = 5; vehicle >= 0; vehicle--) {
            queue = queue.assign(vehicle, vehicle + 14);
        }
        check.due("one of 720", queue, 1, x -> x.orders());
        for (int place = 0; place < 6; place++) {
            int p = place;
            check.due("the last is first", queue, 5 - place, x -> x.finisher(p));
            check.due("all come to their ends", queue.tick(20), 14 + place, x -> x.zoneOf(p));
        }
        Plan swap = Plan.line(1).vehicle(0, 60).vehicle(1, 60);
        check.refusesState("two can't change places", swap, x -> x.assign(0, 1));
        Plan ring = Plan.line(2).lane(2, 0).vehicle(0, 60).vehicle(1, 60).vehicle(2, 60);
        check.refusesState("nor three in a ring, the first of them", ring, x -> x.assign(0, 1));
        Plan wide = Plan.line(3).lane(3, 0).vehicle(0, 60).vehicle(1, 60).vehicle(2, 60).assign(2, 3).assign(1, 2);
        check.due("a ring with one free zone", wide, 1, x -> x.assign(0, 1));
        check.refusesState("round a ring with no free zone", wide.assign(0, 1), x -> x.addVehicle(3, 60));
        Plan three = Plan.star(6).vehicle(1, 60).vehicle(2, 60).vehicle(3, 60).assign(0, 4).assign(1, 1);
        check.due("one goes where another leaves", three, 2, x -> x.assign(2, 2));
        check.due("in one order", three.assign(2, 2), 1, x -> x.orders());
        check.due("those ahead have run through, others are where they are", three.assign(2, 2), 1, x -> x.finisher(1));
        check.refusesState("none, when the first of them stays", three.assign(2, 2), x -> x.cancel(0));
        check.refusesState("none, when the second of them stays", three.assign(2, 2), x -> x.cancel(1));
        check.due("one, when the third of them stays", three.assign(2, 2), 2, x -> x.cancel(2));
    }

    /** "(So it is safe if no vehicle has a route.)" */
    private static void safeIfNoVehicleHasARoute() {
        Plan packed = Plan.line(5);
        for (int vehicle = 0; vehicle < 6; vehicle++) {
            int zone = vehicle;
            check.due("a vehicle beside idle ones", packed, vehicle, x -> x.addVehicle(zone, 60));
            check.due("one order of none", packed, 1, x -> x.orders());
            packed = packed.vehicle(zone, 60);
        }
        check.due("one order of none, six vehicles", packed, 1, x -> x.orders());
        Plan lone = Plan.line(3).vehicle(0, 60).vehicle(3, 60).assign(0, 2);
        check.due("the only route can be taken away", lone, 2, x -> x.cancel(0));
        check.due("then one may come to where it went", lone.cancel(0), 2, x -> x.addVehicle(1, 60));
        check.due("behind the last step too", lone.tick(2), 2, x -> x.addVehicle(1, 60));
    }

    /** "It is always safe: what would make it unsafe is refused." */
    private static void whatWouldBeUnsafeIsRefused() {
        Plan plan = Plan.line(4).lane(2, 8).vehicle(0, 60).vehicle(4, 60).assign(0, 8).assign(1, 0).step(1);
        check.refusesState("a vehicle", plan, x -> x.addVehicle(1, 60));
        check.refusesState("a step", plan, x -> x.step(1));
        check.due("a step in a tick", plan.tick(1), 3, x -> x.zoneOf(1));
        check.refusesState("a route", Plan.line(4).vehicle(0, 60).vehicle(4, 60).assign(0, 3), x -> x.assign(1, 1));
        Plan behind = Plan.line(4).vehicle(0, 60).vehicle(1, 60).assign(1, 4).assign(0, 2);
        check.refusesState("to take a route away", behind, x -> x.cancel(1));
        Plan job = Plan.line(4).vehicle(0, 60).vehicle(4, 60).job(1).assign(0, 3);
        check.due("a job", job, NONE, x -> x.dispatch());
        check.changesNothing("no job was given", job, x -> x.dispatch());
        check.due("then all come to their ends", plan.tick(20), 8, x -> x.zoneOf(0) + x.zoneOf(1));
    }

    /** The least energy that is enough, and one less. */
    private static void needs(String what, Plan plan, int from, int to, int energy) {
        int lanes = plan.make().distance(from, to);
        Plan enough = plan.vehicle(from, energy);
        Plan oneLess = plan.vehicle(from, energy - 1);
        check.due(what + ": enough", enough, lanes, x -> x.assign(0, to));
        check.refusesState(what + ": one less", oneLess, x -> x.assign(0, to));
        check.due(what + ": a job", enough.job(to), 0, x -> x.dispatch());
        check.due(what + ": a job, one less", oneLess.job(to), NONE, x -> x.dispatch());
    }

    /** "if no charger can be reached from there, as the number of lanes alone": there is none. */
    private static void energyForTheWayAlone() {
        needs("one lane", Plan.line(3), 0, 1, 1);
        needs("three lanes", Plan.line(3), 3, 0, 3);
        needs("nineteen", Plan.line(19), 0, 19, 19);
        needs("none any more", Plan.line(19).charger(19).charger(0).noCharger(19).noCharger(0), 3, 9, 6);
        check.refusesState("energy 0", Plan.line(1).vehicle(0, 0), x -> x.assign(0, 1));
    }

    /** "if it has as much as the number of its lanes and the least distance from this zone to a charger, together". */
    private static void energyWithACharger() {
        needs("to the charger itself", Plan.line(9).charger(4), 1, 4, 3);
        needs("one before it", Plan.line(9).charger(4), 1, 3, 3);
        needs("one behind it", Plan.line(9).charger(4), 1, 5, 5);
        needs("away from it: from the end, not from the start", Plan.line(9).charger(0), 1, 5, 9);
        needs("to and back again", Plan.line(19).charger(0), 0, 19, 38);
        needs("in zone 19", Plan.line(19).charger(19), 17, 16, 4);
        needs("the nearest of two, the lower one", Plan.line(9).charger(2).charger(9), 5, 3, 3);
        needs("the nearest of two, the higher one", Plan.line(9).charger(0).charger(6), 5, 4, 3);
        needs("two as far", Plan.line(9).charger(1).charger(5), 4, 3, 3);
        needs("all of them", Plan.line(2).charger(0).charger(1).charger(2), 0, 2, 2);
        Plan taken = Plan.line(9).charger(4).vehicle(4, 9);
        check.due("a vehicle in the charger does not matter", taken.vehicle(6, 2), 1, x -> x.assign(1, 5));
        check.refusesState("one less, a vehicle in the charger", taken.vehicle(6, 1), x -> x.assign(1, 5));
    }

    /** "if no charger can be reached from there, as the number of lanes alone": there is one elsewhere. */
    private static void chargerThatCanNotBeReached() {
        needs("elsewhere", Plan.line(5).lane(7, 8).charger(7), 0, 4, 4);
        needs("elsewhere, in zone 0", Plan.nothing().lane(1, 2).lane(2, 3).charger(0), 1, 3, 2);
        needs("elsewhere, in zone 19", Plan.line(5).charger(19), 0, 4, 4);
        needs("one elsewhere, one here", Plan.line(5).charger(19).charger(5), 0, 4, 5);
        needs("joined by a lane", Plan.line(5).charger(19).lane(19, 0), 0, 4, 9);
    }

    /** "Jobs are numbered from 0; there are at most 20." */
    private static void atMostTwentyJobs() {
        Plan plan = Plan.line(3).vehicle(0, 60);
        Plan done = plan;
        for (int job = 0; job < 20; job++) {
            int zone = 19 - job;
            check.due("number " + job, plan, job, x -> x.addJob(zone));
            plan = plan.job(zone);
            done = done.job(1 + job % 2).dispatch().tick(2);
        }
        check.refusesState("a twenty-first", plan, x -> x.addJob(0));
        check.due("all are done", done, DONE, x -> x.jobState(19));
        check.refusesState("a twenty-first when all are done", done, x -> x.addJob(0));
    }

    /** "it is OPEN, GIVEN to a vehicle, or DONE." */
    private static void openGivenOrDone() {
        Plan plan = Plan.line(3).vehicle(0, 60).job(2);
        check.due("open", plan, OPEN, x -> x.jobState(0));
        check.due("given", plan.dispatch(), GIVEN, x -> x.jobState(0));
        check.due("given until the last step", plan.dispatch().step(0), GIVEN, x -> x.jobState(0));
        check.due("done", plan.dispatch().step(0).step(0), DONE, x -> x.jobState(0));
        check.due("open again", plan.dispatch().step(0).cancel(0), OPEN, x -> x.jobState(0));
        check.due("nobody's, though one came there", plan.assign(0, 2).tick(2), OPEN, x -> x.jobState(0));
    }

    /** "A vehicle can take a job if it is idle, it could be assigned to the zone of the job". */
    private static void canTakeAJob() {
        Plan plan = Plan.line(4).vehicle(1, 2).job(3);
        check.due("it can", plan, 1000, x -> x.regret(0));
        check.due("it is not idle", plan.assign(0, 0), NONE, x -> x.regret(0));
        check.due("its route even ends there", plan.assign(0, 3), NONE, x -> x.regret(0));
        check.due("it is in the zone", plan.job(1), NONE, x -> x.regret(1));
        check.due("there is no way", plan.job(9), NONE, x -> x.regret(1));
        check.due("too little energy", plan.job(4), NONE, x -> x.regret(1));
        check.due("it would not be safe", plan.vehicle(2, 0), NONE, x -> x.regret(0));
        check.due("there is none", Plan.line(4).job(3), NONE, x -> x.regret(0));
        Plan six = Plan.star(19).job(0);
        for (int vehicle = 0; vehicle < 6; vehicle++) {
            six = six.vehicle(1 + vehicle, vehicle < 5 ? 0 : 1);
        }
        check.due("just the last of six", six, 1000, x -> x.regret(0));
        check.due("and it gets it", six.dispatch(), 5, x -> x.jobVehicle(0));
    }

    /** "The regret of an open job is the second least length less the least one". */
    private static void regretOfTheTwoLeast() {
        Plan plan = Plan.star(2).lane(1, 3).lane(3, 4).lane(2, 5).lane(5, 6).lane(6, 7).lane(7, 8).job(0);
        check.due("2 and 3", plan.vehicle(3, 60).vehicle(6, 60), 1, x -> x.regret(0));
        check.due("3 and 2", plan.vehicle(6, 60).vehicle(3, 60), 1, x -> x.regret(0));
        Plan three = plan.lane(0, 9).vehicle(8, 60).vehicle(4, 60);
        check.due("5 and 3", three, 2, x -> x.regret(0));
        check.due("5, 3 and 1", three.vehicle(9, 60), 2, x -> x.regret(0));
        Plan far = Plan.star(3).lane(1, 4).lane(4, 5).lane(5, 6).lane(2, 7).lane(7, 8).job(0);
        check.due("1, 4 and 3", far.vehicle(3, 60).vehicle(6, 60).vehicle(8, 60), 2, x -> x.regret(0));
        check.due("4, 3 and 1", far.vehicle(6, 60).vehicle(8, 60).vehicle(3, 60), 2, x -> x.regret(0));
        check.due("3, 1 and 4", far.vehicle(8, 60).vehicle(3, 60).vehicle(6, 60), 2, x -> x.regret(0));
        check.due("1 and 18", Plan.line(19).job(1).vehicle(0, 60).vehicle(19, 60), 17, x -> x.regret(0));
        check.due("one that can't take it does not count", far.vehicle(3, 60).vehicle(8, 2).vehicle(6, 60), 3,
                x -> x.regret(0));
    }

    /** "(0 if both are the same)". */
    private static void regretOfNothing() {
        Plan plan = Plan.star(6).lane(6, 7).job(0);
        check.due("two", plan.vehicle(1, 60).vehicle(2, 60), 0, x -> x.regret(0));
        check.due("two of three, the first and the last", plan.vehicle(1, 60).vehicle(7, 60).vehicle(2, 60), 0,
                x -> x.regret(0));
        check.due("two of three, the last ones", plan.vehicle(7, 60).vehicle(1, 60).vehicle(2, 60), 0,
                x -> x.regret(0));
        check.due("two of three, the first ones", plan.vehicle(1, 60).vehicle(2, 60).vehicle(7, 60), 0,
                x -> x.regret(0));
        check.due("it can be given", plan.vehicle(1, 60).vehicle(2, 60), 0, x -> x.dispatch());
    }

    /** "1000 if just one can". */
    private static void regretWithJustOne() {
        check.due("one vehicle", Plan.line(19).vehicle(0, 60).job(19), 1000, x -> x.regret(0));
        check.due("one lane", Plan.line(1).vehicle(0, 60).job(1), 1000, x -> x.regret(0));
        check.due("one of two", Plan.line(3).vehicle(0, 60).vehicle(3, 1).job(1), 1000, x -> x.regret(0));
        check.due("the other one of two", Plan.line(3).vehicle(3, 1).vehicle(0, 60).job(1), 1000, x -> x.regret(0));
    }

    /** "a job that no vehicle can take has none." */
    private static void noRegret() {
        check.due("no vehicle", Plan.line(3).job(1), NONE, x -> x.regret(0));
        check.due("none that can", Plan.line(3).vehicle(1, 60).vehicle(19, 60).job(1), NONE, x -> x.regret(0));
        check.due("it is not given", Plan.line(3).vehicle(1, 60).job(1), NONE, x -> x.dispatch());
        check.due("another one is, of regret 0", Plan.star(4).vehicle(1, 60).vehicle(2, 60).job(9).job(3), 1,
                x -> x.dispatch());
    }

    /** "If several apply, the one that the throws clause names first is thrown." */
    private static void theFirstExceptionOfSeveral() {
        Plan full = Plan.full();
        check.refusesArgument("six vehicles, no zone", full, x -> x.addVehicle(20, 9));
        check.refusesArgument("six vehicles, no energy", full, x -> x.addVehicle(0, 61));
        check.refusesArgument("one is there, energy -1", Plan.line(2).vehicle(1, 5), x -> x.addVehicle(1, -1));
        check.refusesArgument("not safe, energy 61", Plan.line(2).vehicle(0, 5).assign(0, 2), x -> x.addVehicle(1, 61));
        check.refusesArgument("twenty jobs, no zone", full, x -> x.addJob(-1));
        check.refusesIndex("no vehicle, no zone", full, x -> x.assign(6, 20));
        check.refusesIndex("no vehicle at all, no zone", Plan.nothing(), x -> x.assign(0, -1));
        check.refusesIndex("no vehicle, no way", Plan.nothing().vehicle(0, 60), x -> x.assign(1, 5));
        check.refusesArgument("not idle, no zone", Plan.busy(), x -> x.assign(0, 20));
        check.refusesArgument("energy 0, no zone", Plan.line(3).vehicle(0, 0), x -> x.assign(0, -1));
        check.refusesIndex("no vehicle, no place", full, x -> x.routeZone(6, -1));
        check.refusesIndex("no vehicle at all, no place", Plan.nothing(), x -> x.routeZone(0, 0));
    }

    /** "An object is used for at most 512 calls": the 512th still answers as it has to. */
    private static void atMost512Calls() {
        ZoneController refused = Plan.line(2).vehicle(0, 60).make();
        for (int call = 3; call < 511; call++) {
            int c = call;
            check.state("refused " + c, () -> refused.addLane(c % 2, 1 + c % 2));
        }
        check.same("behind refused calls", refused.assign(0, 2), 2);
        ZoneController ticks = Plan.full().make();
        for (int call = Plan.full().calls(); call < 511; call++) {
            ticks.tick(20);
        }
        check.same("behind ticks", ticks.tick(20), 0);
        toAndFro();
        givenAndTakenAway();
        waitingLong();
    }

    private static void toAndFro() {
        ZoneController x = Plan.line(1).charger(0).vehicle(0, 60).make();
        int calls = 3;
        for (; calls + 5 <= 511; calls += 5) {
            check.same("there", x.assign(0, 1), 1);
            check.same("there, step", x.step(0), 1);
            check.same("back", x.assign(0, 0), 1);
            check.same("back, tick", x.tick(1), 1);
            check.same("charged", x.charge(0), 2);
        }
        for (; calls < 511; calls++) {
            check.same("full", x.charge(0), 0);
        }
        check.same("the 512th", x.energy(0), 60);
    }

    private static void givenAndTakenAway() {
        ZoneController x = Plan.line(3).vehicle(0, 60).job(3).make();
        int calls = 5;
        for (; calls + 2 <= 511; calls += 2) {
            check.same("given", x.dispatch(), 0);
            check.same("taken away", x.cancel(0), 3);
        }
        check.same("the 512th", x.dispatch(), 0);
    }

    /** Vehicle 0 waits in a siding until vehicle 1 has gone the whole line, again and again. */
    private static void waitingLong() {
        ZoneController x = Plan.line(18).lane(19, 1).charger(0).charger(18).charger(19)
                .vehicle(19, 60).vehicle(18, 60).make();
        int waits = 0;
        for (int calls = 24; calls + 13 <= 511; calls += 13) {
            x.assign(1, 0);
            x.assign(0, 18);
            check.same("both come to their ends", x.tick(20) + x.tick(20), 36);
            waits += 18;
            check.same("waited", x.waited(0), waits);
            x.charge(0);
            x.charge(1);
            x.assign(0, 19);
            x.tick(20);
            x.assign(1, 18);
            x.tick(20);
            x.charge(0);
            x.charge(1);
        }
        check.yes("waited for many ticks", waits > 600);
        check.same("the last look", x.waited(0), waits);
    }
}
