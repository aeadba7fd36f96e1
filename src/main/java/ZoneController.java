/**
 * A controller of guided vehicles in a plant of zones: vehicles get routes, step from zone to zone when that is
 * safe, so that all of them can always come to the ends of their routes, charge, and are given jobs by regret.
 */
public final class ZoneController {
    /** None. */
    public static final int NONE = -1;
    /** The state of a job. */
    public static final int OPEN = 0;
    /** The state of a job. */
    public static final int GIVEN = 1;
    /** The state of a job. */
    public static final int DONE = 2;

    private static final int ZONES = 20;
    private static final int MOST_VEHICLES = 6;
    private static final int MOST_JOBS = 20;
    private static final int MOST_ENERGY = 60;
    private static final int MOST_TICKS = 20;
    private static final int REGRET_WITH_ONE_TAKER = 1000;

    private final Plant plant;
    private final Traffic traffic;
    private final Vehicle[] fleet;
    private final Job[] jobs;
    private int vehicleCount;
    private int jobCount;

    /** Makes zones without lanes, and no vehicles. */
    public ZoneController() {
        plant = new Plant();
        traffic = new Traffic();
        fleet = new Vehicle[MOST_VEHICLES];
        for (int vehicle = 0; vehicle < MOST_VEHICLES; vehicle++) {
            fleet[vehicle] = new Vehicle();
        }
        jobs = new Job[MOST_JOBS];
        for (int job = 0; job < MOST_JOBS; job++) {
            jobs[job] = new Job();
        }
    }

    // ---- the plant

    /** Lays a lane; answers how many lanes there are then. */
    public int addLane(int one, int other) throws IllegalArgumentException, IllegalStateException {
        requireZone(one);
        requireZone(other);
        if (one == other) {
            throw new IllegalArgumentException("a lane joins two zones");
        }
        if (plant.hasLane(one, other)) {
            throw new IllegalStateException("there is a lane between them");
        }
        plant.lay(one, other);
        return plant.lanes;
    }

    /** Makes a zone a charger, or none any more; answers whether it was one. */
    public boolean setCharger(int zone, boolean isCharger) throws IllegalArgumentException {
        requireZone(zone);
        boolean was = plant.chargers[zone];
        plant.chargers[zone] = isCharger;
        return was;
    }

    /** Answers the distance of two zones; NONE if there is no way. */
    public int distance(int one, int other) throws IllegalArgumentException {
        requireZone(one);
        requireZone(other);
        return plant.hasWay(one, other) ? plant.distances[one][other] : NONE;
    }

    // ---- vehicles and routes

    /** Brings a vehicle, which is idle; answers its number. */
    public int addVehicle(int zone, int energy) throws IllegalArgumentException, IllegalStateException {
        requireZone(zone);
        if (energy < 0 || energy > MOST_ENERGY) {
            throw new IllegalArgumentException("energy is 0 to 60");
        }
        int vehicle = vehicleCount;
        if (vehicle >= MOST_VEHICLES) {
            throw new IllegalStateException("there are 6 vehicles");
        }
        if (findIn(zone) != NONE) {
            throw new IllegalStateException("a vehicle is in the zone");
        }
        if (!isSafeWithIdle(vehicle, zone)) {
            throw new IllegalStateException("the plant would not be safe");
        }
        fleet[vehicle].zone = zone;
        fleet[vehicle].energy = energy;
        vehicleCount++;
        return vehicle;
    }

    /** Gives an idle vehicle its way to a zone as its route; answers the number of zones of the route. */
    public int assign(int vehicle, int zone)
            throws IndexOutOfBoundsException, IllegalArgumentException, IllegalStateException {
        requireVehicle(vehicle);
        requireZone(zone);
        int length = lengthFor(vehicle, zone);
        if (length == NONE) {
            throw new IllegalStateException("the vehicle can't be assigned to the zone");
        }
        fleet[vehicle].takeWay(plant, zone);
        return length;
    }

    /** Takes the route of a vehicle away, and opens its job again; answers how many zones were left of the route. */
    public int cancel(int vehicle) throws IndexOutOfBoundsException, IllegalStateException {
        requireVehicle(vehicle);
        Vehicle cancelled = fleet[vehicle];
        if (cancelled.isIdle()) {
            throw new IllegalStateException("the vehicle is idle");
        }
        if (!isSafeWithIdle(vehicle, cancelled.zone)) {
            throw new IllegalStateException("the plant would not be safe");
        }
        int left = cancelled.zonesLeft();
        cancelled.dropRoute();
        endJobOf(vehicle, OPEN, NONE);
        return left;
    }

    /** Charges an idle vehicle in a charger; answers how much was charged. */
    public int charge(int vehicle) throws IndexOutOfBoundsException, IllegalStateException {
        requireVehicle(vehicle);
        Vehicle charged = fleet[vehicle];
        if (!charged.isIdle()) {
            throw new IllegalStateException("the vehicle is not idle");
        }
        if (!plant.chargers[charged.zone]) {
            throw new IllegalStateException("the vehicle is not in a charger");
        }
        int missing = MOST_ENERGY - charged.energy;
        charged.energy = MOST_ENERGY;
        return missing;
    }

    /** Answers whether a vehicle may step. */
    public boolean canStep(int vehicle) throws IndexOutOfBoundsException {
        requireVehicle(vehicle);
        return mayMove(vehicle);
    }

    /** Lets a vehicle step; answers the zone in which it is then. */
    public int step(int vehicle) throws IndexOutOfBoundsException, IllegalStateException {
        requireVehicle(vehicle);
        if (!mayMove(vehicle)) {
            throw new IllegalStateException("the vehicle may not step");
        }
        move(vehicle);
        return fleet[vehicle].zone;
    }

    /** Lets ticks pass; answers how many steps were made. */
    public int tick(int ticks) throws IllegalArgumentException {
        if (ticks < 1 || ticks > MOST_TICKS) {
            throw new IllegalArgumentException("ticks are 1 to 20");
        }
        int steps = 0;
        for (int passed = 0; passed < ticks; passed++) {
            steps += passOneTick();
        }
        return steps;
    }

    // ---- jobs

    /** Adds a job, which is OPEN; answers its number. */
    public int addJob(int zone) throws IllegalArgumentException, IllegalStateException {
        requireZone(zone);
        int job = jobCount;
        if (job >= MOST_JOBS) {
            throw new IllegalStateException("there are 20 jobs");
        }
        jobs[job].zone = zone;
        jobCount++;
        return job;
    }

    /** Gives the job with the greatest regret to the vehicle nearest to it; answers the job, NONE if there is none. */
    public int dispatch() {
        int job = mostRegretted();
        int vehicle = job == NONE ? NONE : nearestTaker(job);
        if (vehicle == NONE) {
            return NONE;
        }
        fleet[vehicle].takeWay(plant, jobs[job].zone);
        fleet[vehicle].job = job;
        jobs[job].state = GIVEN;
        jobs[job].vehicle = vehicle;
        return job;
    }

    /** Answers the state of a job: OPEN, GIVEN or DONE. */
    public int jobState(int job) throws IndexOutOfBoundsException {
        requireJob(job);
        return jobs[job].state;
    }

    /** Answers the vehicle to which a job is GIVEN, or by which it was DONE; NONE if it is OPEN. */
    public int jobVehicle(int job) throws IndexOutOfBoundsException {
        requireJob(job);
        return jobs[job].vehicle;
    }

    /** Answers the regret of a job; NONE if it is not OPEN, or no vehicle can take it. */
    public int regret(int job) throws IndexOutOfBoundsException {
        requireJob(job);
        return regretOf(job);
    }

    // ---- how things stand

    /** Answers how many vehicles there are. */
    public int vehicles() {
        return vehicleCount;
    }

    /** Answers the zone in which a vehicle is. */
    public int zoneOf(int vehicle) throws IndexOutOfBoundsException {
        requireVehicle(vehicle);
        return fleet[vehicle].zone;
    }

    /** Answers the vehicle that is in a zone; NONE if there is none. */
    public int vehicleIn(int zone) throws IllegalArgumentException {
        requireZone(zone);
        return findIn(zone);
    }

    /** Answers how many zones are left of the route of a vehicle; 0 if it is idle. */
    public int routeLength(int vehicle) throws IndexOutOfBoundsException {
        requireVehicle(vehicle);
        return fleet[vehicle].zonesLeft();
    }

    /** Answers a zone of the route of a vehicle; place 0 is the zone to which it goes next. */
    public int routeZone(int vehicle, int place) throws IndexOutOfBoundsException, IllegalArgumentException {
        requireVehicle(vehicle);
        Vehicle going = fleet[vehicle];
        if (place < 0 || place >= going.zonesLeft()) {
            throw new IllegalArgumentException("the route has no such place");
        }
        return going.route[going.next + place];
    }

    /** Answers the energy of a vehicle. */
    public int energy(int vehicle) throws IndexOutOfBoundsException {
        requireVehicle(vehicle);
        return fleet[vehicle].energy;
    }

    /** Answers for how many ticks a vehicle has waited in all. */
    public int waited(int vehicle) throws IndexOutOfBoundsException {
        requireVehicle(vehicle);
        return fleet[vehicle].ticksWaited;
    }

    /** Answers how many orders there are in which the vehicles with a route can run through. */
    public int orders() {
        lookAtTraffic();
        return traffic.countOrders();
    }

    /** Answers a vehicle of the first one of these orders; place 0 is the vehicle that runs through first. */
    public int finisher(int place) throws IllegalArgumentException {
        lookAtTraffic();
        if (place < 0 || place >= Integer.bitCount(traffic.going)) {
            throw new IllegalArgumentException("the orders have no such place");
        }
        traffic.countOrders();
        return traffic.runnerInFirstOrder(place);
    }

    // ---- what the calls share

    private static void requireZone(int zone) {
        if (zone < 0 || zone >= ZONES) {
            throw new IllegalArgumentException("zones are 0 to 19");
        }
    }

    private void requireVehicle(int vehicle) {
        if (vehicle < 0 || vehicle >= vehicleCount) {
            throw new IndexOutOfBoundsException("there is no such vehicle");
        }
    }

    private void requireJob(int job) {
        if (job < 0 || job >= jobCount) {
            throw new IndexOutOfBoundsException("there is no such job");
        }
    }

    private int findIn(int zone) {
        for (int vehicle = 0; vehicle < vehicleCount; vehicle++) {
            if (fleet[vehicle].zone == zone) {
                return vehicle;
            }
        }
        return NONE;
    }

    private void lookAtTraffic() {
        traffic.clear();
        for (int vehicle = 0; vehicle < vehicleCount; vehicle++) {
            Vehicle seen = fleet[vehicle];
            traffic.put(vehicle, seen.zone, seen.routeBits, seen.lastZone());
        }
    }

    /** Answers whether the plant is safe if one vehicle, perhaps a new one, stands and goes as told, not as it does. */
    private boolean isSafeWith(int vehicle, int zone, int routeBits, int lastZone) {
        lookAtTraffic();
        traffic.put(vehicle, zone, routeBits, lastZone);
        return traffic.countOrders() > 0;
    }

    private boolean isSafeWithIdle(int vehicle, int zone) {
        return isSafeWith(vehicle, zone, 0, zone);
    }

    /** Answers the number of zones of the way of a vehicle to a zone; NONE if it could not be assigned to it. */
    private int lengthFor(int vehicle, int zone) {
        Vehicle asked = fleet[vehicle];
        int from = asked.zone;
        if (!asked.isIdle() || from == zone || !plant.hasWay(from, zone)) {
            return NONE;
        }
        if (asked.energy < plant.energyForWay(from, zone)) {
            return NONE;
        }
        boolean isSafe = isSafeWith(vehicle, from, plant.wayBits(from, zone), zone);
        return isSafe ? plant.distances[from][zone] : NONE;
    }

    private boolean mayMove(int vehicle) {
        Vehicle asked = fleet[vehicle];
        if (asked.isIdle()) {
            return false;
        }
        int zone = asked.nextZone();
        if (findIn(zone) != NONE) {
            return false;
        }
        return isSafeWith(vehicle, zone, asked.routeBits & ~(1 << zone), asked.lastZone());
    }

    private void move(int vehicle) {
        fleet[vehicle].advance();
        if (fleet[vehicle].isIdle()) {
            endJobOf(vehicle, DONE, vehicle);
        }
    }

    private int passOneTick() {
        int steps = 0;
        for (int vehicle = 0; vehicle < vehicleCount; vehicle++) {
            if (mayMove(vehicle)) {
                move(vehicle);
                steps++;
            } else if (!fleet[vehicle].isIdle()) {
                fleet[vehicle].ticksWaited++;
            }
        }
        return steps;
    }

    /** Ends that a vehicle has a job: the job, if it has one, gets another state and another vehicle. */
    private void endJobOf(int vehicle, int state, int jobsVehicle) {
        int job = fleet[vehicle].job;
        if (job < 0 || job >= jobCount) {
            return;
        }
        jobs[job].state = state;
        jobs[job].vehicle = jobsVehicle;
        fleet[vehicle].job = NONE;
    }

    private int regretOf(int job) {
        if (jobs[job].state != OPEN) {
            return NONE;
        }
        int least = NONE;
        int second = NONE;
        for (int vehicle = 0; vehicle < vehicleCount; vehicle++) {
            int length = lengthFor(vehicle, jobs[job].zone);
            if (length == NONE) {
                continue;
            }
            if (least == NONE || length < least) {
                second = least;
                least = length;
            } else if (second == NONE || length < second) {
                second = length;
            }
        }
        if (least == NONE) {
            return NONE;
        }
        return second == NONE ? REGRET_WITH_ONE_TAKER : second - least;
    }

    private int mostRegretted() {
        int found = NONE;
        int most = NONE;
        for (int job = 0; job < jobCount; job++) {
            int regretted = regretOf(job);
            if (regretted > most) {
                most = regretted;
                found = job;
            }
        }
        return found;
    }

    private int nearestTaker(int job) {
        int found = NONE;
        int least = NONE;
        for (int vehicle = 0; vehicle < vehicleCount; vehicle++) {
            int length = lengthFor(vehicle, jobs[job].zone);
            if (length != NONE && (least == NONE || length < least)) {
                least = length;
                found = vehicle;
            }
        }
        return found;
    }

    /** The zones with their lanes and chargers, and the ways that the lanes make. */
    private static final class Plant {
        /** The distance where there is no way: above each real one, and two of them are no overflow. */
        private static final int FAR = 1000;

        /** Two zones have the distance 1 just if a lane joins them, so that no other table of lanes is kept. */
        final int[][] distances = new int[ZONES][ZONES];
        final boolean[] chargers = new boolean[ZONES];
        int lanes;

        Plant() {
            for (int from = 0; from < ZONES; from++) {
                for (int to = 0; to < ZONES; to++) {
                    distances[from][to] = from == to ? 0 : FAR;
                }
            }
        }

        boolean hasLane(int one, int other) {
            return distances[one][other] == 1;
        }

        boolean hasWay(int from, int to) {
            return distances[from][to] < FAR;
        }

        /** Lanes are never taken up again, so that a new one can only shorten distances, by ways over itself. */
        void lay(int one, int other) {
            for (int from = 0; from < ZONES; from++) {
                for (int to = 0; to < ZONES; to++) {
                    int there = distances[from][one] + 1 + distances[other][to];
                    int back = distances[from][other] + 1 + distances[one][to];
                    distances[from][to] = Math.min(distances[from][to], Math.min(there, back));
                }
            }
            lanes++;
        }

        /** Answers the energy that is enough for the way between two zones; there is a way. */
        int energyForWay(int from, int to) {
            int onward = FAR;
            for (int zone = 0; zone < ZONES; zone++) {
                if (chargers[zone]) {
                    onward = Math.min(onward, distances[to][zone]);
                }
            }
            return onward < FAR ? distances[from][to] + onward : distances[from][to];
        }

        /** Answers the zone that comes behind a zone on the way to another one; there is a way. */
        int nextOnWay(int from, int to) {
            for (int zone = 0; zone < ZONES; zone++) {
                if (hasLane(from, zone) && distances[zone][to] == distances[from][to] - 1) {
                    return zone;
                }
            }
            return to;
        }

        /** Answers the zones of the way between two zones, the first one left out, a bit for each. */
        int wayBits(int from, int to) {
            int bits = 0;
            int zone = from;
            int length = distances[from][to];
            for (int place = 0; place < length; place++) {
                zone = nextOnWay(zone, to);
                bits |= 1 << zone;
            }
            return bits;
        }
    }

    /** A vehicle. Its route is what stands in the row from next to end - 1; it is idle if that is nothing. */
    private static final class Vehicle {
        final int[] route = new int[ZONES];
        int next;
        int end;
        int routeBits;
        int zone;
        int energy;
        int ticksWaited;
        int job = NONE;

        boolean isIdle() {
            return next >= end;
        }

        int zonesLeft() {
            return end - next;
        }

        int nextZone() {
            return next < end ? route[next] : zone;
        }

        int lastZone() {
            return next < end ? route[end - 1] : zone;
        }

        /** Takes the way to another zone as the route; there is a way. */
        void takeWay(Plant plant, int to) {
            int length = Math.min(plant.distances[zone][to], ZONES);
            int at = zone;
            routeBits = 0;
            for (int place = 0; place < length; place++) {
                at = plant.nextOnWay(at, to);
                route[place] = at;
                routeBits |= 1 << at;
            }
            next = 0;
            end = length;
        }

        void dropRoute() {
            next = 0;
            end = 0;
            routeBits = 0;
        }

        void advance() {
            zone = nextZone();
            routeBits &= ~(1 << zone);
            next++;
            energy--;
        }
    }

    /** A job; what it says counts from when the job is added. */
    private static final class Job {
        int zone;
        int state = OPEN;
        int vehicle = NONE;
    }

    /**
     * A picture of the vehicles, for the orders in which those with a route can run through. Where all of them are
     * depends only on which have run through, not on the order of these: so the orders are counted by sets of
     * vehicles, a bit for each. Zones are bits too.
     */
    private static final class Traffic {
        private final int[] starts = new int[MOST_VEHICLES];
        private final int[] ends = new int[MOST_VEHICLES];
        private final int[] routes = new int[MOST_VEHICLES];
        /** By the set of those that have run through: the number of orders in which the others still can. */
        private final int[] counts = new int[1 << MOST_VEHICLES];
        /** The vehicles with a route. */
        int going;

        void clear() {
            going = 0;
            for (int vehicle = 0; vehicle < MOST_VEHICLES; vehicle++) {
                starts[vehicle] = 0;
                ends[vehicle] = 0;
                routes[vehicle] = 0;
            }
        }

        /** Puts a vehicle into the picture, in place of what the picture held for it. */
        void put(int vehicle, int zone, int routeBits, int lastZone) {
            starts[vehicle] = 1 << zone;
            ends[vehicle] = 1 << lastZone;
            routes[vehicle] = routeBits;
            int bit = 1 << vehicle;
            going = routeBits == 0 ? going & ~bit : going | bit;
        }

        /** Counts the orders of all vehicles with a route. */
        int countOrders() {
            counts[going] = 1;
            for (int through = going - 1; through >= 0; through--) {
                if ((through & ~going) == 0) {
                    counts[through] = sumBehind(through, runnersBehind(through));
                }
            }
            return counts[0];
        }

        private int sumBehind(int through, int runners) {
            int sum = 0;
            for (int vehicle = 0; vehicle < MOST_VEHICLES; vehicle++) {
                int bit = 1 << vehicle;
                if ((runners & bit) != 0) {
                    sum += counts[through | bit];
                }
            }
            return sum;
        }

        /** Answers the vehicles that can run through as the next ones, when those of a set have. */
        private int runnersBehind(int through) {
            int taken = 0;
            for (int vehicle = 0; vehicle < MOST_VEHICLES; vehicle++) {
                taken |= (through & (1 << vehicle)) == 0 ? starts[vehicle] : ends[vehicle];
            }
            int runners = 0;
            for (int vehicle = 0; vehicle < MOST_VEHICLES; vehicle++) {
                // The vehicle's own zone is among the taken ones, but never in its route: a way does not come back.
                if ((routes[vehicle] & taken) == 0) {
                    runners |= 1 << vehicle;
                }
            }
            return runners & going & ~through;
        }

        /** Answers a vehicle of the first order, NONE if there is none; the orders have been counted. */
        int runnerInFirstOrder(int place) {
            int through = 0;
            int runner = NONE;
            for (int at = 0; at <= place; at++) {
                runner = firstToRun(through);
                if (runner == NONE) {
                    return NONE;
                }
                through |= 1 << runner;
            }
            return runner;
        }

        private int firstToRun(int through) {
            int runners = runnersBehind(through);
            for (int vehicle = 0; vehicle < MOST_VEHICLES; vehicle++) {
                int bit = 1 << vehicle;
                if ((runners & bit) != 0 && counts[through | bit] > 0) {
                    return vehicle;
                }
            }
            return NONE;
        }
    }
}
