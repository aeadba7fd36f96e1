import java.lang.reflect.Constructor;
import java.lang.reflect.Field;
import java.lang.reflect.Method;
import java.lang.reflect.Modifier;
import java.util.ArrayList;
import java.util.Arrays;
import java.util.HashSet;
import java.util.List;
import java.util.Set;
import java.util.TreeSet;

/** The public face as the document lists it, and no other member that could be seen from outside. */
public final class FaceTest {
    private static final String[] FACE = {
        "ZoneController()",
        "boolean canStep(int) IndexOutOfBoundsException",
        "boolean setCharger(int, boolean) IllegalArgumentException",
        "int DONE", "int GIVEN", "int NONE", "int OPEN",
        "int addJob(int) IllegalArgumentException IllegalStateException",
        "int addLane(int, int) IllegalArgumentException IllegalStateException",
        "int addVehicle(int, int) IllegalArgumentException IllegalStateException",
        "int assign(int, int) IndexOutOfBoundsException IllegalArgumentException IllegalStateException",
        "int cancel(int) IndexOutOfBoundsException IllegalStateException",
        "int charge(int) IndexOutOfBoundsException IllegalStateException",
        "int dispatch()",
        "int distance(int, int) IllegalArgumentException",
        "int energy(int) IndexOutOfBoundsException",
        "int finisher(int) IllegalArgumentException",
        "int jobState(int) IndexOutOfBoundsException",
        "int jobVehicle(int) IndexOutOfBoundsException",
        "int orders()",
        "int regret(int) IndexOutOfBoundsException",
        "int routeLength(int) IndexOutOfBoundsException",
        "int routeZone(int, int) IndexOutOfBoundsException IllegalArgumentException",
        "int step(int) IndexOutOfBoundsException IllegalStateException",
        "int tick(int) IllegalArgumentException",
        "int vehicleIn(int) IllegalArgumentException",
        "int vehicles()",
        "int waited(int) IndexOutOfBoundsException",
        "int zoneOf(int) IndexOutOfBoundsException",
    };

    private static final Check check = new Check();

    public static void main(String[] args) {
        check.yes("public", Modifier.isPublic(ZoneController.class.getModifiers()));
        check.yes("final", Modifier.isFinal(ZoneController.class.getModifiers()));
        Set<String> due = new TreeSet<>(Arrays.asList(FACE));
        Set<String> seen = new TreeSet<>(members());
        for (String member : due) {
            check.yes("there is: " + member, seen.contains(member));
        }
        for (String member : seen) {
            check.yes("there may be: " + member, due.contains(member));
        }
        privateNames();
        check.end();
    }

    private static List<String> members() {
        List<String> members = new ArrayList<>();
        for (Constructor<?> made : ZoneController.class.getDeclaredConstructors()) {
            members.add("ZoneController" + listed(made.getParameterTypes()) + named(made.getExceptionTypes()));
        }
        for (Field field : ZoneController.class.getDeclaredFields()) {
            if (!Modifier.isPrivate(field.getModifiers())) {
                check.yes("a constant: " + field.getName(), isConstant(field.getModifiers()));
                members.add(field.getType() + " " + field.getName());
            }
        }
        for (Method method : ZoneController.class.getDeclaredMethods()) {
            if (!Modifier.isPrivate(method.getModifiers())) {
                check.yes("public: " + method.getName(), Modifier.isPublic(method.getModifiers()));
                String parameters = listed(method.getParameterTypes());
                String thrown = named(method.getExceptionTypes());
                members.add(method.getReturnType() + " " + method.getName() + parameters + thrown);
            }
        }
        return members;
    }

    private static boolean isConstant(int modifiers) {
        return Modifier.isPublic(modifiers) && Modifier.isStatic(modifiers) && Modifier.isFinal(modifiers);
    }

    private static String listed(Class<?>[] types) {
        String text = Arrays.toString(types);
        return "(" + text.substring(1, text.length() - 1) + ")";
    }

    private static String named(Class<?>[] types) {
        StringBuilder text = new StringBuilder();
        for (Class<?> type : types) {
            text.append(' ').append(type.getSimpleName());
        }
        return text.toString();
    }

    /** LANGUAGE.md, rule 1: no private method bears the name of a public one, in the classes inside neither. */
    private static void privateNames() {
        Set<String> open = new HashSet<>();
        for (Method method : ZoneController.class.getMethods()) {
            open.add(method.getName());
        }
        List<Class<?>> all = new ArrayList<>(List.of(ZoneController.class.getDeclaredClasses()));
        all.add(ZoneController.class);
        for (Class<?> type : all) {
            for (Method method : type.getDeclaredMethods()) {
                boolean isFace = type == ZoneController.class && Modifier.isPublic(method.getModifiers());
                boolean bears = !isFace && open.contains(method.getName());
                check.no("bears a name of the face: " + type.getName() + "." + method.getName(), bears);
            }
        }
    }
}
