import java.io.IOException;
import java.lang.reflect.Field;
import java.lang.reflect.Method;
import java.lang.reflect.Modifier;
import java.nio.file.Files;
import java.nio.file.Path;
import java.util.List;
import java.util.regex.Matcher;
import java.util.regex.Pattern;

/**
 * README.md tells how to use the class: its examples answer what stands behind them, it names every call and every
 * constant, for how many calls an object is used, and how the tests are run.
 */
public final class ReadmeTest {
    private static final String BEGIN = "HalfFriends town = new HalfFriends();";
    private static final Pattern CALL = Pattern.compile("town\\.(\\w+)\\(([^)]*)\\); +// ([A-Z]+|-?\\d+)(:.*)?");

    public static void main(String[] args) throws IOException {
        List<String> lines = Files.readAllLines(Path.of("README.md"));
        examples(lines);
        callsAndConstants(String.join("\n", lines));
        sentences(String.join(" ", lines));
        Due.end();
    }

    private static void holds(String what, boolean so) {
        Due.due("README.md: " + what, so ? 1 : 0, 1);
    }

    private static void examples(List<String> lines) throws IOException {
        Script town = new Script();
        boolean inside = false;
        int made = 0;
        for (String line : lines) {
            if (line.startsWith("```")) {
                inside = line.equals("```java");
            } else if (inside && line.equals(BEGIN)) {
                town = new Script();
            } else if (inside && !line.isBlank()) {
                Matcher call = CALL.matcher(line);
                holds("an example that can be made: " + line, call.matches());
                if (call.matches()) {
                    town.then(inWords(call.group(1), call.group(2)), number(call.group(3)));
                    made++;
                }
            }
        }
        holds("it has examples", made >= 20);
    }

    private static String inWords(String name, String arguments) {
        StringBuilder words = new StringBuilder(name);
        for (String argument : arguments.split(", *")) {
            words.append(argument.isEmpty() ? "" : " " + number(argument));
        }
        return words.toString();
    }

    private static int number(String word) {
        for (Field f : HalfFriends.class.getFields()) {
            if (word.equals(f.getName()) || word.equals("HalfFriends." + f.getName())) {
                return value(f);
            }
        }
        return Integer.decode(word);
    }

    private static int value(Field constant) {
        try {
            return constant.getInt(null);
        } catch (IllegalAccessException e) {
            throw new IllegalStateException(e);
        }
    }

    private static void callsAndConstants(String text) {
        for (Field f : HalfFriends.class.getFields()) {
            holds(f.getName() + " stands with its value", text.contains("| `" + f.getName() + "` | " + value(f) + " |"));
        }
        for (Method m : HalfFriends.class.getDeclaredMethods()) {
            if (Modifier.isPublic(m.getModifiers())) {
                Pattern row = Pattern.compile("^\\| `" + m.getName() + "\\(([^)]*)\\)` \\| .+ \\|$", Pattern.MULTILINE);
                Matcher found = row.matcher(text);
                boolean told = found.find();
                holds("what " + m.getName() + " answers", told);
                int names = !told || found.group(1).isEmpty() ? 0 : found.group(1).split(",").length;
                Due.due("README.md: arguments of " + m.getName(), names, m.getParameterCount());
            }
        }
    }

    private static void sentences(String text) {
        holds("for how many calls an object is used", text.contains("at most 512 calls"));
        holds("a refused call changes nothing", text.contains("A refused call changes nothing"));
        holds("but THE TAPE and the numbers that wait", text.contains("uses up THE TAPE") && text.contains("uses up the numbers that wait"));
        holds("how its tests are run", text.contains("``` .ci/run ```"));
    }
}
