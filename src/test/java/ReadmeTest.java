import java.io.IOException;
import java.lang.reflect.Field;
import java.lang.reflect.Method;
import java.lang.reflect.Modifier;
import java.nio.file.Files;
import java.nio.file.Path;
import java.util.ArrayList;
import java.util.Arrays;
import java.util.List;
import java.util.regex.Matcher;
import java.util.regex.Pattern;

/** The tables of README.md say of constants, limits, calls and exceptions what the class has. */
public final class ReadmeTest {
    /** What is done with so many of something on a new object; beyond its limit it is refused. */
    private interface Probe {
        long with(ZoneController x, int number);
    }

    private static final Pattern EXCEPTION = Pattern.compile("\\w+Exception");

    private static final Check check = new Check();
    private static final List<String[]> rows = new ArrayList<>();

    public static void main(String[] args) throws IOException {
        for (String line : Files.readAllLines(Path.of("README.md"))) {
            if (line.startsWith("| ")) {
                rows.add(cells(line));
            }
        }
        constants();
        calls();
        limits();
        check.end();
    }

    private static String[] cells(String line) {
        String[] cells = line.substring(1, line.length() - 1).split("\\|", -1);
        for (int cell = 0; cell < cells.length; cell++) {
            cells[cell] = cells[cell].trim();
        }
        return cells;
    }

    private static int rowsLike(String pattern) {
        int like = 0;
        for (String[] row : rows) {
            like += row[0].matches(pattern) ? 1 : 0;
        }
        return like;
    }

    /** A cell of the row whose first cell begins so; a text that no row has if there is none. */
    private static String cell(String begin, int place) {
        for (String[] row : rows) {
            if (row[0].startsWith(begin) && place < row.length) {
                return row[place];
            }
        }
        return "no row for " + begin;
    }

    private static void constants() {
        int constants = 0;
        for (Field field : ZoneController.class.getFields()) {
            constants++;
            check.texts(field.getName(), cell("`" + field.getName() + "`", 1), valueOf(field));
        }
        check.same("constants", rowsLike("`[A-Z]+`"), constants);
    }

    private static String valueOf(Field field) {
        try {
            return Integer.toString(field.getInt(null));
        } catch (IllegalAccessException e) {
            return "hidden";
        }
    }

    private static void calls() {
        int calls = 1;
        check.texts("ZoneController()", cell("`ZoneController(", 0), "`ZoneController()`");
        for (Method method : ZoneController.class.getDeclaredMethods()) {
            if (Modifier.isPublic(method.getModifiers())) {
                calls++;
                String begin = "`" + method.getName() + "(";
                check.same(begin + " parameters", parametersOf(cell(begin, 0)), method.getParameterCount());
                check.texts(begin + " exceptions", exceptionsIn(cell(begin, 2)), exceptionsOf(method));
            }
        }
        check.same("calls", rowsLike("`\\w+\\(.*"), calls);
    }

    private static int parametersOf(String call) {
        if (!call.matches("`\\w+\\(.*\\)`")) {
            return -1;
        }
        String listed = call.substring(call.indexOf('(') + 1, call.length() - 2);
        return listed.isEmpty() ? 0 : listed.split(", ").length;
    }

    private static String exceptionsIn(String cell) {
        List<String> names = new ArrayList<>();
        Matcher found = EXCEPTION.matcher(cell);
        while (found.find()) {
            names.add(found.group());
        }
        return names.toString();
    }

    private static String exceptionsOf(Method method) {
        return Arrays.stream(method.getExceptionTypes()).map(Class::getSimpleName).toList().toString();
    }

    private static void limits() {
        limit("zones", (x, number) -> x.vehicleIn(number - 1));
        limit("vehicles", ReadmeTest::bringVehicles);
        limit("energy of a vehicle", (x, number) -> x.addVehicle(0, number));
        limit("jobs", ReadmeTest::addJobs);
        limit("ticks of one call", ZoneController::tick);
        check.texts("calls on one object", cell("calls on one object", 1), "512");
        check.same("limits", rowsLike("zones|vehicles|jobs|[a-z]+ o[nf] .*"), 6);
    }

    /** So many are taken; one more is refused by the exception that the row names. */
    private static void limit(String what, Probe probe) {
        String number = cell(what, 1);
        check.yes(what + " is a number: " + number, number.matches("\\d{1,3}"));
        if (number.matches("\\d{1,3}")) {
            int most = Integer.parseInt(number);
            String taken = Check.outcome(() -> probe.with(new ZoneController(), most));
            check.texts(what + ", as many", exceptionsIn(taken), "[]");
            String refused = Check.outcome(() -> probe.with(new ZoneController(), most + 1));
            check.texts(what + ", one more", exceptionsIn(refused), exceptionsIn(cell(what, 2)));
        }
    }

    private static long bringVehicles(ZoneController x, int number) {
        for (int zone = 0; zone < number; zone++) {
            x.addVehicle(zone, 0);
        }
        return number;
    }

    private static long addJobs(ZoneController x, int number) {
        for (int job = 0; job < number; job++) {
            x.addJob(0);
        }
        return number;
    }
}
