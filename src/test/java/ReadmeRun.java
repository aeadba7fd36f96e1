import java.io.IOException;
import java.nio.file.Files;
import java.nio.file.Path;
import java.util.List;
import java.util.regex.Matcher;
import java.util.regex.Pattern;

/**
 * Makes a test, ReadmeAnswers, of the run of calls in README.md: as it stands there it is compiled, and each call has
 * to answer what the comment behind it names. A line that names no answer is refused, so that none goes untested.
 */
public final class ReadmeRun {
    private static final String NEW_OBJECT = "ZoneController plant = new ZoneController();";
    private static final Pattern CALL = Pattern.compile(
            "(?:(int|boolean) (\\w+) = )?(plant\\.\\w+\\([\\w, .-]*\\)); +// (throws )?([\\w.-]+)(: .*)?");
    private static final Pattern ANSWER = Pattern.compile("-?\\d+|true|false|ZoneController\\.[A-Z]+");

    public static void main(String[] args) throws IOException {
        if (args.length != 2) {
            throw new IllegalArgumentException("which README, and which folder?");
        }
        List<String> lines = Files.readAllLines(Path.of(args[0]));
        Files.writeString(Path.of(args[1], "ReadmeAnswers.java"), testOf(lines));
    }

    private static String testOf(List<String> lines) {
        StringBuilder test = new StringBuilder("public final class ReadmeAnswers {\n");
        test.append("    public static void main(String[] args) {\n        Check check = new Check();\n");
        int first = lines.indexOf("```java") + 1;
        if (first == 0 || first >= lines.size() || !lines.get(first).equals(NEW_OBJECT)) {
            throw new IllegalArgumentException("the run of calls has to begin with: " + NEW_OBJECT);
        }
        test.append("        ").append(NEW_OBJECT).append('\n');
        int at = first + 1;
        for (; at < lines.size() && !lines.get(at).equals("```"); at++) {
            if (!lines.get(at).isEmpty()) {
                test.append(checkOf(lines.get(at), "README.md, line " + (at + 1)));
            }
        }
        if (at == first + 1 || at == lines.size() || lines.subList(at, lines.size()).contains("```java")) {
            throw new IllegalArgumentException("there has to be one run of calls, with an end");
        }
        return test.append("        check.end();\n    }\n}\n").toString();
    }

    private static String checkOf(String line, String where) {
        Matcher parts = CALL.matcher(line);
        if (!parts.matches()) {
            throw new IllegalArgumentException(where + ": not a call with an answer behind it: " + line);
        }
        String call = parts.group(3);
        String what = "\"" + where + ": " + call + "\"";
        String answer = parts.group(5);
        if (parts.group(4) != null) {
            return throwing(what, call, answer);
        }
        if (!ANSWER.matcher(answer).matches()) {
            throw new IllegalArgumentException(where + ": not an answer: " + answer);
        }
        if (parts.group(1) == null) {
            return comparing(what, call, answer);
        }
        String declared = "        " + parts.group(1) + " " + parts.group(2) + " = " + call + ";\n";
        return declared + comparing(what, parts.group(2), answer);
    }

    private static String comparing(String what, String got, String answer) {
        if (answer.equals("true") || answer.equals("false")) {
            return "        check." + (answer.equals("true") ? "yes" : "no") + "(" + what + ", " + got + ");\n";
        }
        return "        check.same(" + what + ", " + got + ", " + answer + ");\n";
    }

    private static String throwing(String what, String call, String exception) {
        return "        check.texts(" + what + ", Check.outcome(() -> {\n            " + call
                + ";\n            return 0;\n        }), \"" + exception + "\");\n";
    }
}
