/** Promises 12 to 16, jobs: each sentence that names a boundary case has a test of its own. */
public final class JobEdgesTest {
    private static final int NONE = ZoneController.NONE;
    private static final int OPEN = ZoneController.OPEN;
    private static final int GIVEN = ZoneController.GIVEN;
    private static final int DONE = ZoneController.DONE;

    /** How many jobs there are in each of Plan.states(). */
    private static final int[] JOBS = {0, 4, 20};

    private static final Check check = new Check();

    public static void main(String[] args) {
        check.part("12 number", JobEdgesTest::addJobReturnsItsNumber);
        check.part("12 open", JobEdgesTest::addJobMakesItOpen);
        check.part("12 no zone", JobEdgesTest::addJobRefusesNoZone);
        check.part("12 twenty", JobEdgesTest::addJobRefusesATwentyFirst);
        check.part("13 one job", JobEdgesTest::dispatchGivesOneJob);
        check.part("13 greatest", JobEdgesTest::dispatchTakesTheGreatestRegret);
        check.part("13 lowest job", JobEdgesTest::dispatchTakesTheLowestJobOfSeveral);
        check.part("13 least length", JobEdgesTest::dispatchTakesTheNearestVehicle);
        check.part("13 lowest vehicle", JobEdgesTest::dispatchTakesTheLowestVehicleOfSeveral);
        check.part("13 assigned", JobEdgesTest::dispatchAssignsTheVehicle);
        check.part("13 none", JobEdgesTest::dispatchReturnsNone);
        check.part("14 returns", JobEdgesTest::jobStateIsOneOfThree);
        check.part("14 no job", JobEdgesTest::jobStateRefusesNoJob);
        check.part("15 returns", JobEdgesTest::jobVehicleOfGivenAndDone);
        check.part("15 none", JobEdgesTest::jobVehicleIsNoneIfOpen);
        check.part("15 no job", JobEdgesTest::jobVehicleRefusesNoJob);
        check.part("16 returns", JobEdgesTest::regretIsTheRegret);
        check.part("16 not open", JobEdgesTest::regretIsNoneIfNotOpen);
        check.part("16 nobody", JobEdgesTest::regretIsNoneIfNobodyCan);
        check.part("16 no job", JobEdgesTest::regretRefusesNoJob);
        check.end();
    }

    // ---- promise 12

    /** "Returns its number": 0 to 19. */
    private static void addJobReturnsItsNumber() {
        Plan plan = Plan.nothing();
        for (int job = 0; job < 20; job++) {
            int zone = job * 7 % 20;
            check.due("12 number", plan, job, x -> x.addJob(zone));
            check.due("12 behind a refused one", plan.thenTry(x -> x.addJob(20)), job, x -> x.addJob(zone));
            plan = plan.job(zone);
        }
        check.due("12 in the zone of another one", Plan.nothing().job(5), 1, x -> x.addJob(5));
        check.due("12 in the zone of a vehicle", Plan.nothing().vehicle(5, 60), 0, x -> x.addJob(5));
        check.due("12 beside busy ones", Plan.busy(), 4, x -> x.addJob(9));
    }

    /** "Adds a job, which is OPEN." */
    private static void addJobMakesItOpen() {
        Plan plan = Plan.line(3).vehicle(0, 60);
        for (int job = 0; job < 20; job++) {
            int j = job;
            plan = plan.job(1 + job % 3);
            check.due("12 open " + j, plan, OPEN, x -> x.jobState(j));
            check.due("12 nobody's " + j, plan, NONE, x -> x.jobVehicle(j));
            check.due("12 it can be taken " + j, plan, 1000, x -> x.regret(j));
        }
        Plan two = Plan.line(3).vehicle(0, 60).job(2).job(2).dispatch().tick(2);
        check.due("12 two in one zone, one is done", two, DONE, x -> x.jobState(0));
        check.due("12 two in one zone, one is open", two, OPEN, x -> x.jobState(1));
    }

    /** "Throws IllegalArgumentException if zone is no zone". */
    private static void addJobRefusesNoZone() {
        for (Plan plan : Plan.states()) {
            for (int zone : Check.NO_ZONES) {
                check.refusesArgument("12 zone " + zone, plan, x -> x.addJob(zone));
            }
        }
    }

    /** "Throws IllegalStateException if there are 20 jobs". */
    private static void addJobRefusesATwentyFirst() {
        Plan open = Plan.nothing();
        for (int job = 0; job < 19; job++) {
            open = open.job(job);
        }
        check.due("12 the twentieth", open, 19, x -> x.addJob(19));
        for (int zone = 0; zone < 20; zone++) {
            int z = zone;
            check.refusesState("12 all open, at " + z, open.job(19), x -> x.addJob(z));
            check.refusesState("12 open, given and done, at " + z, Plan.full(), x -> x.addJob(z));
        }
    }

    // ---- promise 13

    /** "Gives one job". */
    private static void dispatchGivesOneJob() {
        Plan plan = Plan.star(9).vehicle(1, 60).vehicle(2, 60).job(3).job(4).job(5);
        check.due("13 one", plan, 0, x -> x.dispatch());
        check.due("13 it is given", plan.dispatch(), GIVEN, x -> x.jobState(0));
        check.due("13 not the next one", plan.dispatch(), OPEN, x -> x.jobState(1));
        check.due("13 not to the next vehicle", plan.dispatch(), 0, x -> x.routeLength(1));
        check.due("13 the next one", plan.dispatch(), 1, x -> x.dispatch());
        check.due("13 it is given too", plan.dispatch().dispatch(), GIVEN, x -> x.jobState(1));
        check.due("13 one for each vehicle", plan.dispatch().dispatch(), NONE, x -> x.dispatch());
        check.due("13 the third one is open", plan.dispatch().dispatch(), OPEN, x -> x.jobState(2));
    }

    /** "that with the greatest regret". */
    private static void dispatchTakesTheGreatestRegret() {
        Plan plan = Plan.line(19).vehicle(0, 60).vehicle(19, 60);
        check.due("13 1 and 17", plan.job(9).job(1), 1, x -> x.dispatch());
        check.due("13 17 and 1", plan.job(1).job(9), 0, x -> x.dispatch());
        check.due("13 1, 3 and 5", plan.job(9).job(8).job(7), 2, x -> x.dispatch());
        check.due("13 3, 5 and 1", plan.job(8).job(7).job(9), 1, x -> x.dispatch());
        Plan star = Plan.star(9).lane(9, 10).vehicle(1, 60).vehicle(2, 60).vehicle(10, 60);
        check.due("13 0 and none", star.job(19).job(3), 1, x -> x.dispatch());
        check.due("13 0 and 1", star.job(3).job(9), 1, x -> x.dispatch());
        Plan few = Plan.line(9).vehicle(0, 60).vehicle(9, 1).job(1).job(7);
        check.due("13 1000 and 1000", few, 0, x -> x.dispatch());
        Plan farther = Plan.line(9).lane(0, 10).vehicle(0, 60).vehicle(9, 8).job(1).job(0).job(10);
        check.due("13 7, none and 1000", farther, 2, x -> x.dispatch());
        check.due("13 a greater one is not open", plan.job(1).job(9).dispatch().tick(1), 1, x -> x.dispatch());
    }

    /** "of several the lowest". */
    private static void dispatchTakesTheLowestJobOfSeveral() {
        Plan zero = Plan.star(9).vehicle(1, 60).vehicle(2, 60).job(9).job(8).job(7);
        check.due("13 0, 0 and 0", zero, 0, x -> x.dispatch());
        check.due("13 1000 and 1000 then", zero.dispatch(), 1, x -> x.dispatch());
        Plan line = Plan.line(19).vehicle(0, 60).vehicle(19, 60).job(9).job(12).job(7);
        check.due("13 1, 5 and 5", line, 1, x -> x.dispatch());
        check.due("13 the two of one zone", Plan.line(3).vehicle(0, 60).job(3).job(3), 0, x -> x.dispatch());
        Plan all = Plan.star(19).vehicle(1, 60).vehicle(2, 60);
        for (int job = 0; job < 20; job++) {
            all = all.job(job < 17 ? 19 - job : 0);
        }
        check.due("13 twenty of them", all, 0, x -> x.dispatch());
    }

    /** "to the vehicle with the least length for it". */
    private static void dispatchTakesTheNearestVehicle() {
        Plan star = Plan.star(3).lane(1, 4).lane(4, 5).lane(5, 6).lane(2, 7).lane(7, 8).job(0);
        Plan first = star.vehicle(3, 60).vehicle(6, 60).vehicle(8, 60);
        Plan second = star.vehicle(6, 60).vehicle(3, 60).vehicle(8, 60);
        Plan third = star.vehicle(6, 60).vehicle(8, 60).vehicle(3, 60);
        check.due("13 1, 4 and 3", first.dispatch(), 0, x -> x.jobVehicle(0));
        check.due("13 4, 1 and 3", second.dispatch(), 1, x -> x.jobVehicle(0));
        check.due("13 4, 3 and 1", third.dispatch(), 2, x -> x.jobVehicle(0));
        Plan noEnergy = star.vehicle(3, 0).vehicle(6, 60).vehicle(8, 60);
        check.due("13 the nearest has too little energy", noEnergy.dispatch(), 2, x -> x.jobVehicle(0));
        Plan notIdle = second.lane(3, 9).assign(1, 9);
        check.due("13 the nearest is not idle", notIdle.dispatch(), 2, x -> x.jobVehicle(0));
        Plan in = Plan.line(5).vehicle(2, 60).vehicle(5, 60).job(2);
        check.due("13 one that is there can't, nor one that would go there", in, NONE, x -> x.dispatch());
        check.due("13 the one that was there has a route", in.assign(0, 0).dispatch(), 1, x -> x.jobVehicle(0));
    }

    /** "of several the lowest": vehicles. */
    private static void dispatchTakesTheLowestVehicleOfSeveral() {
        Plan plan = Plan.star(9).job(0).lane(9, 10);
        check.due("13 1 and 1", plan.vehicle(2, 60).vehicle(1, 60).dispatch(), 0, x -> x.jobVehicle(0));
        check.due("13 2, 1 and 1", plan.vehicle(10, 60).vehicle(2, 60).vehicle(1, 60).dispatch(), 1,
                x -> x.jobVehicle(0));
        Plan six = Plan.star(19).job(0);
        for (int vehicle = 0; vehicle < 6; vehicle++) {
            six = six.vehicle(6 - vehicle, 1 + vehicle);
        }
        check.due("13 six", six.dispatch(), 0, x -> x.jobVehicle(0));
    }

    /** "The vehicle is assigned to its zone." */
    private static void dispatchAssignsTheVehicle() {
        Plan plan = Plan.nothing().lane(0, 2).lane(0, 1).lane(1, 3).lane(2, 3).vehicle(0, 9).job(3);
        check.due("13 the length", plan.dispatch(), 2, x -> x.routeLength(0));
        check.due("13 its way", plan.dispatch(), 1, x -> x.routeZone(0, 0));
        check.due("13 to the zone", plan.dispatch(), 3, x -> x.routeZone(0, 1));
        check.due("13 it has not stepped", plan.dispatch(), 0, x -> x.zoneOf(0));
        check.due("13 it takes no energy", plan.dispatch(), 9, x -> x.energy(0));
        check.refusesState("13 it is not idle", plan.dispatch(), x -> x.assign(0, 1));
        check.due("13 it comes there", plan.dispatch().tick(2), 3, x -> x.zoneOf(0));
        check.due("13 the farthest one", Plan.line(19).vehicle(0, 60).job(19).dispatch(), 19, x -> x.routeLength(0));
        check.due("13 the nearest one", Plan.line(19).vehicle(0, 60).job(1).dispatch(), 1, x -> x.routeLength(0));
    }

    /** "NONE if no vehicle can take a job." */
    private static void dispatchReturnsNone() {
        Plan[] none = {
            Plan.nothing(),
            Plan.line(3).vehicle(0, 60),
            Plan.line(3).job(2),
            Plan.line(3).vehicle(0, 60).job(0),
            Plan.line(3).vehicle(0, 60).job(9),
            Plan.line(3).vehicle(0, 0).job(1),
            Plan.line(3).vehicle(0, 2).charger(0).job(2),
            Plan.line(3).vehicle(0, 60).vehicle(1, 0).job(3),
            Plan.line(3).vehicle(0, 60).job(2).assign(0, 1),
            Plan.line(3).vehicle(0, 60).job(2).dispatch(),
            Plan.line(3).vehicle(0, 60).job(2).dispatch().tick(2),
            Plan.full().dispatch().dispatch().dispatch().dispatch(),
        };
        for (int at = 0; at < none.length; at++) {
            check.due("13 none " + at, none[at], NONE, x -> x.dispatch());
            check.changesNothing("13 none " + at, none[at], x -> x.dispatch());
        }
    }

    // ---- promise 14

    /** "Returns OPEN, GIVEN or DONE." */
    private static void jobStateIsOneOfThree() {
        int[] due = {DONE, GIVEN, OPEN, OPEN};
        for (int job = 0; job < 4; job++) {
            int j = job;
            check.due("14 state of " + j, Plan.busy(), due[j], x -> x.jobState(j));
            check.changesNothing("14 it only asks " + j, Plan.busy(), x -> x.jobState(j));
        }
        check.due("14 the twentieth", Plan.full(), OPEN, x -> x.jobState(19));
        check.due("14 given", Plan.full(), GIVEN, x -> x.jobState(18));
        check.due("14 done", Plan.full(), DONE, x -> x.jobState(1));
    }

    /** "Throws IndexOutOfBoundsException if there is no such job". */
    private static void jobStateRefusesNoJob() {
        Plan[] states = Plan.states();
        for (int at = 0; at < states.length; at++) {
            for (int job : Check.noJobs(JOBS[at])) {
                check.refusesIndex("14 job " + job, states[at], x -> x.jobState(job));
            }
        }
    }

    // ---- promise 15

    /** "Returns the vehicle to which it is GIVEN, or by which it was DONE". */
    private static void jobVehicleOfGivenAndDone() {
        Plan six = Plan.star(19);
        for (int vehicle = 0; vehicle < 6; vehicle++) {
            six = six.vehicle(1 + vehicle, 60).job(12 + vehicle);
        }
        for (int job = 0; job < 6; job++) {
            int j = job;
            six = six.dispatch();
            check.due("15 given " + j, six, j, x -> x.jobVehicle(j));
        }
        Plan done = six.tick(20);
        for (int job = 0; job < 6; job++) {
            int j = job;
            check.due("15 done " + j, done, DONE, x -> x.jobState(j));
            check.due("15 done by " + j, done, j, x -> x.jobVehicle(j));
            check.due("15 done by, though it has another route " + j, done.assign(j, 1), j, x -> x.jobVehicle(j));
        }
        check.changesNothing("15 it only asks", Plan.busy(), x -> x.jobVehicle(1));
    }

    /** "NONE if it is OPEN." */
    private static void jobVehicleIsNoneIfOpen() {
        Plan plan = Plan.line(3).vehicle(0, 60).job(3);
        check.due("15 never given", plan, NONE, x -> x.jobVehicle(0));
        check.due("15 open again", plan.dispatch().cancel(0), NONE, x -> x.jobVehicle(0));
        check.due("15 open again on the way", plan.dispatch().tick(2).cancel(0), NONE, x -> x.jobVehicle(0));
        check.due("15 though one goes there", plan.assign(0, 3), NONE, x -> x.jobVehicle(0));
        check.due("15 though one is there", plan.assign(0, 3).tick(3), NONE, x -> x.jobVehicle(0));
        check.due("15 without vehicles", Plan.nothing().job(0), NONE, x -> x.jobVehicle(0));
    }

    /** "Throws IndexOutOfBoundsException if there is no such job". */
    private static void jobVehicleRefusesNoJob() {
        Plan[] states = Plan.states();
        for (int at = 0; at < states.length; at++) {
            for (int job : Check.noJobs(JOBS[at])) {
                check.refusesIndex("15 job " + job, states[at], x -> x.jobVehicle(job));
            }
        }
    }

    // ---- promise 16

    /** "Returns the regret": 0 to 17, or 1000. */
    private static void regretIsTheRegret() {
        for (int zone = 1; zone < 19; zone++) {
            Plan plan = Plan.line(19).vehicle(0, 60).vehicle(19, 60).job(zone);
            check.due("16 in a line, at " + zone, plan, Math.abs(19 - 2 * zone), x -> x.regret(0));
        }
        Plan even = Plan.line(18).vehicle(0, 60).vehicle(18, 60).job(9);
        check.due("16 in the middle", even, 0, x -> x.regret(0));
        check.due("16 just one", Plan.line(18).vehicle(0, 60).vehicle(18, 8).job(9), 1000, x -> x.regret(0));
        Plan twenty = Plan.line(19).vehicle(0, 60);
        for (int job = 0; job < 20; job++) {
            twenty = twenty.job(job);
        }
        check.due("16 the twentieth", twenty, 1000, x -> x.regret(19));
        for (int job = 0; job < 4; job++) {
            int j = job;
            check.changesNothing("16 it only asks " + j, Plan.busy(), x -> x.regret(j));
        }
    }

    /** "NONE if it is not OPEN". */
    private static void regretIsNoneIfNotOpen() {
        Plan plan = Plan.star(9).vehicle(1, 60).vehicle(2, 60).job(5);
        check.due("16 open", plan, 0, x -> x.regret(0));
        check.due("16 given", plan.dispatch(), NONE, x -> x.regret(0));
        check.due("16 given, on the way", plan.dispatch().tick(1), NONE, x -> x.regret(0));
        check.due("16 done", plan.dispatch().tick(2), NONE, x -> x.regret(0));
        check.due("16 done, and left", plan.dispatch().tick(2).assign(0, 9).tick(2), NONE, x -> x.regret(0));
        check.due("16 open again", plan.dispatch().cancel(0), 0, x -> x.regret(0));
    }

    /** "or no vehicle can take it." */
    private static void regretIsNoneIfNobodyCan() {
        check.due("16 no vehicle", Plan.line(3).job(2), NONE, x -> x.regret(0));
        check.due("16 in its zone", Plan.line(3).job(2).vehicle(2, 60), NONE, x -> x.regret(0));
        check.due("16 no way", Plan.line(3).job(2).vehicle(9, 60), NONE, x -> x.regret(0));
        check.due("16 no energy", Plan.line(3).job(2).vehicle(0, 1), NONE, x -> x.regret(0));
        check.due("16 not idle", Plan.line(3).job(2).vehicle(0, 60).assign(0, 1), NONE, x -> x.regret(0));
        check.due("16 not safe", Plan.line(3).job(2).vehicle(0, 60).vehicle(1, 0), NONE, x -> x.regret(0));
        check.due("16 not safe, at its end", Plan.line(3).job(2).vehicle(0, 60).vehicle(2, 0), NONE, x -> x.regret(0));
        check.due("16 it can", Plan.line(3).job(2).vehicle(0, 60).vehicle(3, 0), 1000, x -> x.regret(0));
    }

    /** "Throws IndexOutOfBoundsException if there is no such job". */
    private static void regretRefusesNoJob() {
        Plan[] states = Plan.states();
        for (int at = 0; at < states.length; at++) {
            for (int job : Check.noJobs(JOBS[at])) {
                check.refusesIndex("16 job " + job, states[at], x -> x.regret(job));
            }
        }
    }
}
