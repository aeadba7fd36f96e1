import java.util.ArrayList;
import java.util.List;

/**
 * The document once more, in the most literal way: distances by a search for each question, ways by trying all of
 * them in rising order, safety by trying all orders of vehicles. What a call would bring about is first done on a
 * copy of the vehicles and then looked at.
 */
final class SlowController {
    private static final int NONE = -1;

    private static final class Cart {
        int zone;
        int energy;
        int waited;
        int job = NONE;
        List<Integer> route = new ArrayList<>();

        Cart copy() {
            Cart copy = new Cart();
            copy.zone = zone;
            copy.energy = energy;
            copy.waited = waited;
            copy.job = job;
            copy.route = new ArrayList<>(route);
            return copy;
        }
    }

    private static final class Task {
        int zone;
        int state = 0;
        int cart = NONE;
    }

    private final boolean[][] lane = new boolean[20][20];
    private final boolean[] charger = new boolean[20];
    private final List<Cart> carts = new ArrayList<>();
    private final List<Task> tasks = new ArrayList<>();
    private int lanes = 0;

    // ---- exceptions

    private void zoneMustBe(int zone) {
        if (zone < 0 || zone > 19) throw new IllegalArgumentException();
    }

    private void cartMustBe(int vehicle) {
        if (vehicle < 0 || vehicle >= carts.size()) throw new IndexOutOfBoundsException();
    }

    private void taskMustBe(int job) {
        if (job < 0 || job >= tasks.size()) throw new IndexOutOfBoundsException();
    }

    private void argument(boolean good) {
        if (!good) throw new IllegalArgumentException();
    }

    private void state(boolean good) {
        if (!good) throw new IllegalStateException();
    }

    // ---- the plant

    int addLane(int one, int other) {
        zoneMustBe(one);
        zoneMustBe(other);
        argument(one != other);
        state(!lane[one][other]);
        lane[one][other] = true;
        lane[other][one] = true;
        return ++lanes;
    }

    boolean setCharger(int zone, boolean isCharger) {
        zoneMustBe(zone);
        boolean was = charger[zone];
        charger[zone] = isCharger;
        return was;
    }

    int distance(int one, int other) {
        zoneMustBe(one);
        zoneMustBe(other);
        List<Integer> reached = new ArrayList<>(List.of(one));
        for (int lanesOfWay = 0; lanesOfWay < 20; lanesOfWay++) {
            if (reached.contains(other)) return lanesOfWay;
            for (int zone : new ArrayList<>(reached)) {
                for (int next = 0; next < 20; next++) {
                    if (lane[zone][next] && !reached.contains(next)) reached.add(next);
                }
            }
        }
        return NONE;
    }

    private List<Integer> way(int from, int to) {
        List<Integer> way = new ArrayList<>();
        return extend(way, from, to, distance(from, to)) ? way : null;
    }

    /** Tries all ways with so many lanes, those to low zones first. */
    private boolean extend(List<Integer> way, int at, int to, int lanesLeft) {
        if (lanesLeft == 0) return at == to;
        int far = distance(at, to);
        if (far < 0 || far > lanesLeft) return false;
        for (int next = 0; next < 20; next++) {
            if (!lane[at][next]) continue;
            way.add(next);
            if (extend(way, next, to, lanesLeft - 1)) return true;
            way.remove(way.size() - 1);
        }
        return false;
    }

    // ---- safety

    private static List<Cart> copyOf(List<Cart> some) {
        List<Cart> copy = new ArrayList<>();
        for (Cart cart : some) copy.add(cart.copy());
        return copy;
    }

    /** All orders that work, those with low vehicles first. */
    private static List<List<Integer>> ordersOf(List<Cart> all, boolean justOne) {
        List<List<Integer>> found = new ArrayList<>();
        collect(copyOf(all), new ArrayList<>(), found, justOne);
        return found;
    }

    private static void collect(List<Cart> now, List<Integer> order, List<List<Integer>> found, boolean justOne) {
        boolean someoneGoes = false;
        for (int vehicle = 0; vehicle < now.size(); vehicle++) {
            Cart cart = now.get(vehicle);
            if (cart.route.isEmpty()) continue;
            someoneGoes = true;
            if (justOne && !found.isEmpty()) return;
            if (!runsThrough(now, vehicle)) continue;
            Cart before = cart.copy();
            cart.zone = cart.route.get(cart.route.size() - 1);
            cart.route.clear();
            order.add(vehicle);
            collect(now, order, found, justOne);
            order.remove(order.size() - 1);
            now.set(vehicle, before);
        }
        if (!someoneGoes) found.add(new ArrayList<>(order));
    }

    private static boolean runsThrough(List<Cart> now, int vehicle) {
        for (int zone : now.get(vehicle).route) {
            for (int other = 0; other < now.size(); other++) {
                if (other != vehicle && now.get(other).zone == zone) return false;
            }
        }
        return true;
    }

    private static boolean safe(List<Cart> all) {
        return !ordersOf(all, true).isEmpty();
    }

    // ---- vehicles and routes

    int addVehicle(int zone, int energy) {
        zoneMustBe(zone);
        argument(energy >= 0 && energy <= 60);
        state(carts.size() < 6);
        state(vehicleIn(zone) == NONE);
        Cart cart = new Cart();
        cart.zone = zone;
        cart.energy = energy;
        List<Cart> then = copyOf(carts);
        then.add(cart);
        state(safe(then));
        carts.add(cart);
        return carts.size() - 1;
    }

    private boolean assignable(int vehicle, int zone) {
        Cart cart = carts.get(vehicle);
        if (!cart.route.isEmpty() || cart.zone == zone) return false;
        List<Integer> way = way(cart.zone, zone);
        if (way == null) return false;
        int onward = NONE;
        for (int other = 0; other < 20; other++) {
            int far = distance(zone, other);
            if (charger[other] && far != NONE && (onward == NONE || far < onward)) onward = far;
        }
        if (cart.energy < way.size() + (onward == NONE ? 0 : onward)) return false;
        List<Cart> then = copyOf(carts);
        then.get(vehicle).route = way;
        return safe(then);
    }

    int assign(int vehicle, int zone) {
        cartMustBe(vehicle);
        zoneMustBe(zone);
        state(assignable(vehicle, zone));
        carts.get(vehicle).route = way(carts.get(vehicle).zone, zone);
        return carts.get(vehicle).route.size();
    }

    int cancel(int vehicle) {
        cartMustBe(vehicle);
        Cart cart = carts.get(vehicle);
        state(!cart.route.isEmpty());
        List<Cart> then = copyOf(carts);
        then.get(vehicle).route.clear();
        state(safe(then));
        int left = cart.route.size();
        cart.route.clear();
        if (cart.job != NONE) {
            tasks.get(cart.job).state = 0;
            tasks.get(cart.job).cart = NONE;
            cart.job = NONE;
        }
        return left;
    }

    int charge(int vehicle) {
        cartMustBe(vehicle);
        Cart cart = carts.get(vehicle);
        state(cart.route.isEmpty() && charger[cart.zone]);
        int charged = 60 - cart.energy;
        cart.energy += charged;
        return charged;
    }

    boolean canStep(int vehicle) {
        cartMustBe(vehicle);
        Cart cart = carts.get(vehicle);
        if (cart.route.isEmpty() || vehicleIn(cart.route.get(0)) != NONE) return false;
        List<Cart> then = copyOf(carts);
        then.get(vehicle).zone = then.get(vehicle).route.remove(0);
        return safe(then);
    }

    int step(int vehicle) {
        state(canStep(vehicle));
        Cart cart = carts.get(vehicle);
        cart.zone = cart.route.remove(0);
        cart.energy--;
        if (cart.route.isEmpty() && cart.job != NONE) {
            tasks.get(cart.job).state = 2;
            cart.job = NONE;
        }
        return cart.zone;
    }

    int tick(int ticks) {
        argument(ticks >= 1 && ticks <= 20);
        int steps = 0;
        for (int tick = 0; tick < ticks; tick++) {
            for (int vehicle = 0; vehicle < carts.size(); vehicle++) {
                if (carts.get(vehicle).route.isEmpty()) continue;
                if (canStep(vehicle)) {
                    step(vehicle);
                    steps++;
                } else {
                    carts.get(vehicle).waited++;
                }
            }
        }
        return steps;
    }

    // ---- jobs

    int addJob(int zone) {
        zoneMustBe(zone);
        state(tasks.size() < 20);
        Task task = new Task();
        task.zone = zone;
        tasks.add(task);
        return tasks.size() - 1;
    }

    int dispatch() {
        int best = NONE;
        for (int job = 0; job < tasks.size(); job++) {
            int regret = regret(job);
            if (regret != NONE && (best == NONE || regret > regret(best))) best = job;
        }
        if (best == NONE) return NONE;
        int zone = tasks.get(best).zone;
        int nearest = NONE;
        for (int vehicle = 0; vehicle < carts.size(); vehicle++) {
            if (!assignable(vehicle, zone)) continue;
            if (nearest == NONE || far(vehicle, zone) < far(nearest, zone)) nearest = vehicle;
        }
        assign(nearest, zone);
        carts.get(nearest).job = best;
        tasks.get(best).state = 1;
        tasks.get(best).cart = nearest;
        return best;
    }

    private int far(int vehicle, int zone) {
        return distance(carts.get(vehicle).zone, zone);
    }

    int jobState(int job) {
        taskMustBe(job);
        return tasks.get(job).state;
    }

    int jobVehicle(int job) {
        taskMustBe(job);
        return tasks.get(job).cart;
    }

    int regret(int job) {
        taskMustBe(job);
        if (tasks.get(job).state != 0) return NONE;
        List<Integer> lengths = new ArrayList<>();
        for (int vehicle = 0; vehicle < carts.size(); vehicle++) {
            if (assignable(vehicle, tasks.get(job).zone)) lengths.add(far(vehicle, tasks.get(job).zone));
        }
        lengths.sort(null);
        if (lengths.isEmpty()) return NONE;
        return lengths.size() == 1 ? 1000 : lengths.get(1) - lengths.get(0);
    }

    // ---- how things stand

    int vehicles() {
        return carts.size();
    }

    int zoneOf(int vehicle) {
        cartMustBe(vehicle);
        return carts.get(vehicle).zone;
    }

    int vehicleIn(int zone) {
        zoneMustBe(zone);
        for (int vehicle = 0; vehicle < carts.size(); vehicle++) {
            if (carts.get(vehicle).zone == zone) return vehicle;
        }
        return NONE;
    }

    int routeLength(int vehicle) {
        cartMustBe(vehicle);
        return carts.get(vehicle).route.size();
    }

    int routeZone(int vehicle, int place) {
        cartMustBe(vehicle);
        argument(place >= 0 && place < carts.get(vehicle).route.size());
        return carts.get(vehicle).route.get(place);
    }

    int energy(int vehicle) {
        cartMustBe(vehicle);
        return carts.get(vehicle).energy;
    }

    int waited(int vehicle) {
        cartMustBe(vehicle);
        return carts.get(vehicle).waited;
    }

    int orders() {
        return ordersOf(carts, false).size();
    }

    int finisher(int place) {
        List<Integer> first = ordersOf(carts, true).get(0);
        argument(place >= 0 && place < first.size());
        return first.get(place);
    }
}
